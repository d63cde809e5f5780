import java.util.ArrayList;
import java.util.Arrays;
import java.util.HashMap;
import java.util.List;
import java.util.Map;
import java.util.Random;

/**
 * Promises 9, 12 to 17, 19 and 20 on full shelves of many topics, for which the plain model is too
 * slow: the best rows are found by bettering them, set by set, until none can be bettered.
 */
public final class FullShelfTest {
    private static final Check CHECK = new Check("FullShelfTest");
    private static final int PIECES = 14;

    private record Best(int minutes, List<Integer> steps) {
        boolean isAheadOf(Best other) {
            if (other == null || minutes != other.minutes) {
                return other == null || minutes < other.minutes;
            }
            if (steps.size() != other.steps.size()) {
                return steps.size() < other.steps.size();
            }
            return Arrays.compare(steps.toArray(new Integer[0]), other.steps.toArray(new Integer[0])) < 0;
        }

        Best and(int step, int more) {
            List<Integer> longer = new ArrayList<>(steps);
            longer.add(step);
            return new Best(minutes + more, longer);
        }
    }

    private final Random random;
    private final int topics;
    private final WhatToRead x = new WhatToRead();
    private final int[] worths;
    private final int[] implied;
    private final int[][] pieces = new int[PIECES][];
    private int pace = 2;
    private int known = 0;

    private FullShelfTest(int seed) {
        random = new Random(seed);
        topics = 8 + seed % 5;
        worths = new int[topics];
        implied = new int[topics];
    }

    public static void main(String[] args) {
        int longest = 0;
        for (int seed = 0; seed < 60; seed++) {
            longest = Math.max(longest, new FullShelfTest(seed).run("seed " + seed + ": "));
        }
        CHECK.same("some rows are long", longest > 7, true);
        CHECK.end();
    }

    /** How many steps the longest row had. */
    private int run(String at) {
        fill();
        int longest = 0;
        for (int round = 0; round < 4; round++) {
            Map<Integer, Best> all = bests(-1);
            checkWays(at, all);
            longest = Math.max(longest, x.count(5));
            checkMost(at, all);
            checkLaid(at);
            checkSums(at, all);
            pace = 1 + random.nextInt(10);
            x.pace(pace);
            known = whole(bit() & bit());
            CHECK.same(at + "6 know", x.know(known), known);
        }
        return longest;
    }

    private void fill() {
        for (int i = 0; i < topics; i++) {
            worths[i] = random.nextInt(10);
            int implies = i == 0 || random.nextInt(3) > 0 ? 0 : 1 << random.nextInt(i);
            CHECK.same("2 topic", x.topic(worths[i], implies), i);
            implied[i] = whole(implies) | 1 << i;
        }
        // Few needs, few topics given and few kinds of pages: long rows, and many equal ones.
        for (int i = 0; i < PIECES; i++) {
            int gives = bit() | (random.nextInt(3) == 0 ? bit() : 0);
            int skim = gives & (random.nextInt(3) == 0 ? 0 : random.nextInt(1 << topics));
            int needs = random.nextInt(3) == 0 ? bit() : 0;
            int either = random.nextInt(3) == 0 ? bit() | bit() : 0;
            int pages = random.nextInt(4) == 0 ? 1 + random.nextInt(10) : 3 * (1 + random.nextInt(3));
            pieces[i] = new int[] {needs, either, gives, skim, pages};
            CHECK.same("3 piece", x.piece(needs, either, gives, skim, pages), i);
        }
    }

    private int bit() {
        return 1 << random.nextInt(topics);
    }

    private int whole(int bits) {
        int all = 0;
        for (int i = 0; i < topics; i++) {
            all |= (bits & 1 << i) != 0 ? implied[i] : 0;
        }
        return all;
    }

    private int minutes(int step) {
        int read = pieces[step / 2][4] * pace;
        return step % 2 == 0 ? read : read / 3 + (read % 3 == 0 ? 0 : 1);
    }

    /** The best row to each set of topics, a piece left out (-1: none). */
    private Map<Integer, Best> bests(int without) {
        Map<Integer, Best> all = new HashMap<>();
        all.put(known, new Best(0, List.of()));
        boolean bettered = true;
        while (bettered) {
            bettered = false;
            for (int from : new ArrayList<>(all.keySet())) {
                for (int step = 0; step < 2 * PIECES; step++) {
                    int to = step / 2 == without ? from : behind(step, from);
                    Best next = to == from ? null : all.get(from).and(step, minutes(step));
                    if (next != null && next.isAheadOf(all.get(to))) {
                        all.put(to, next);
                        bettered = true;
                    }
                }
            }
        }
        return all;
    }

    private int behind(int step, int from) {
        int[] piece = pieces[step / 2];
        boolean open = (piece[0] & ~from) == 0 && (piece[1] == 0 || (piece[1] & from) != 0);
        return open ? from | whole(piece[2 + step % 2]) : from;
    }

    private static Best bestWith(Map<Integer, Best> all, int wish) {
        Best best = null;
        for (Map.Entry<Integer, Best> one : all.entrySet()) {
            if ((wish & ~one.getKey()) == 0 && one.getValue().isAheadOf(best)) {
                best = one.getValue();
            }
        }
        return best;
    }

    private void checkWays(String at, Map<Integer, Best> all) {
        int without = random.nextInt(PIECES);
        Map<Integer, Best> fewer = bests(without);
        int reached = all.keySet().stream().reduce(0, (a, b) -> a | b);
        CHECK.same(at + "15 reach", x.reach(), reached);
        for (int i = 0; i < 8; i++) {
            int wish = i == 0 ? reached : i == 1 ? (1 << topics) - 1 : random.nextInt(1 << topics) & reached;
            Best best = bestWith(all, wish);
            Best left = bestWith(fewer, wish);
            int shorter = best == null ? -1 : left == null ? -2 : left.minutes() - best.minutes();
            CHECK.same(at + "17 shortens " + without + " " + wish, x.shortens(without, wish), shorter);
            CHECK.same(at + "12 way " + wish, x.way(wish), best == null ? -1 : best.minutes());
            if (best != null) {
                checkRow(at + "12 way " + wish, best);
            }
        }
        x.way(reached);
    }

    private void checkRow(String at, Best best) {
        CHECK.row(at, x, best.steps().stream().mapToInt(Integer::intValue).toArray());
    }

    private int worth(int bits) {
        int sum = 0;
        for (int i = 0; i < topics; i++) {
            sum += (bits & 1 << i) != 0 ? worths[i] : 0;
        }
        return sum;
    }

    private void checkMost(String at, Map<Integer, Best> all) {
        for (int i = 0; i < 6; i++) {
            int time = i == 0 ? 10000 : random.nextInt(40 * pace);
            Best best = null;
            int most = -1;
            for (Map.Entry<Integer, Best> one : all.entrySet()) {
                int worth = worth(one.getKey());
                boolean richer = worth > most || worth == most && one.getValue().isAheadOf(best);
                if (one.getValue().minutes() <= time && richer) {
                    best = one.getValue();
                    most = worth;
                }
            }
            CHECK.same(at + "14 most " + time, x.most(time), most);
            checkRow(at + "14 most " + time, best);
        }
    }

    /** The latest row, in weeks of which none has much left. */
    private void checkLaid(String at) {
        int[] weeks = new int[52];
        for (int i = 0; i < weeks.length; i++) {
            weeks[i] = random.nextInt(12 * pace);
            CHECK.same(at + "18 week", x.week(i, weeks[i]), true);
        }
        int from = random.nextInt(52);
        int week = from;
        List<Integer> due = new ArrayList<>();
        for (int i = 0; i < x.count(5) && week < 52; i++) {
            int needed = minutes(x.step(i));
            CHECK.same(at + "9 minutes", x.minutes(x.step(i)), needed);
            while (week < 52 && weeks[week] < needed) {
                week++;
            }
            if (week < 52) {
                weeks[week] -= needed;
                due.add(week);
            }
        }
        CHECK.same(at + "19 lay " + from, x.lay(from), week < 52 ? week : -2);
        if (week < 52) {
            CHECK.laid(at + "20 laid", x, due.stream().mapToInt(Integer::intValue).toArray());
        }
    }

    private void checkSums(String at, Map<Integer, Best> all) {
        int gaps = 0;
        for (int[] piece : pieces) {
            gaps |= piece[0];
        }
        for (int[] piece : pieces) {
            gaps &= ~whole(piece[2]);
        }
        CHECK.same(at + "16 gaps", x.gaps(), gaps & ~known);
        CHECK.same(at + "7 worth", x.count(4), worth(known));
        CHECK.same(at + "12 nothing new", x.way(known), all.get(known).minutes());
    }
}
