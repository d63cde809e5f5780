import java.util.ArrayList;
import java.util.Comparator;
import java.util.HashSet;
import java.util.List;
import java.util.Set;
import java.util.TreeSet;

/**
 * The document told once more, by trying everything: every row of steps, every set of topics. Far
 * too slow for a full shelf; it shares no way of reckoning with the class that it is held against.
 */
final class PlainModel {
    private record Topic(int worth, Set<Integer> implies) { }

    private record Piece(Set<Integer> needs, Set<Integer> either, Set<Integer> gives, Set<Integer> skim, int pages) { }

    private record Found(List<Integer> steps, int minutes, Set<Integer> known) { }

    private final List<Topic> topics = new ArrayList<>();
    private final List<Piece> pieces = new ArrayList<>();
    private final int[] weeks = new int[52];
    private final int[] answers = new int[12];
    private Set<Integer> known = new TreeSet<>();
    private List<Integer> row = new ArrayList<>();
    private List<Integer> laid = new ArrayList<>();
    private int pace = 2;

    PlainModel() {
        java.util.Arrays.fill(weeks, 300);
    }

    private static Set<Integer> set(int bits) {
        Set<Integer> all = new TreeSet<>();
        for (int i = 0; i < 32; i++) {
            if ((bits & 1 << i) != 0) {
                all.add(i);
            }
        }
        return all;
    }

    private static int bits(Set<Integer> set) {
        int bits = 0;
        for (int i : set) {
            bits += 1 << i;
        }
        return bits;
    }

    private boolean there(Set<Integer> some) {
        return some.stream().allMatch(t -> t < topics.size());
    }

    private Set<Integer> whole(Set<Integer> some) {
        Set<Integer> all = new TreeSet<>(some);
        for (int t : some) {
            all.addAll(whole(topics.get(t).implies()));
        }
        return all;
    }

    int topic(int worth, int implies) {
        if (worth < 0 || worth > 9 || !there(set(implies)) || topics.size() == 12) {
            return -1;
        }
        topics.add(new Topic(worth, set(implies)));
        return topics.size() - 1;
    }

    int piece(int needs, int either, int gives, int skim, int pages) {
        Piece piece = new Piece(set(needs), set(either), set(gives), set(skim), pages);
        if (!there(piece.needs()) || !there(piece.either()) || !there(piece.gives()) || piece.gives().isEmpty()
                || !piece.gives().containsAll(piece.skim()) || pages < 1 || pages > 400 || pieces.size() == 14) {
            return -1;
        }
        pieces.add(piece);
        return pieces.size() - 1;
    }

    int drop() {
        if (pieces.isEmpty()) {
            return -1;
        }
        pieces.remove(pieces.size() - 1);
        return pieces.size();
    }

    int pace(int v) {
        if (v < 1 || v > 10) {
            return -1;
        }
        int was = pace;
        pace = v;
        return was;
    }

    int know(int some) {
        if (!there(set(some))) {
            return -1;
        }
        known = whole(set(some));
        return bits(known);
    }

    private int worth(Set<Integer> some) {
        return some.stream().mapToInt(t -> topics.get(t).worth()).sum();
    }

    int count(int what) {
        int[] all = {topics.size(), pieces.size(), bits(known), pace, worth(known), row.size()};
        return what >= 0 && what < all.length ? all[what] : -1;
    }

    int with(int some) {
        return there(set(some)) ? bits(whole(set(some))) : -1;
    }

    int minutes(int step) {
        if (step < 0 || step / 2 >= pieces.size()) {
            return -1;
        }
        int all = pieces.get(step / 2).pages() * pace;
        return step % 2 == 0 ? all : (int) Math.ceil(all / 3.0 - 1e-9);
    }

    private boolean open(int step, Set<Integer> from) {
        Piece piece = pieces.get(step / 2);
        return from.containsAll(piece.needs())
            && (piece.either().isEmpty() || piece.either().stream().anyMatch(from::contains));
    }

    private Set<Integer> behind(int step, Set<Integer> from) {
        Piece piece = pieces.get(step / 2);
        Set<Integer> all = new TreeSet<>(from);
        all.addAll(whole(step % 2 == 0 ? piece.gives() : piece.skim()));
        return all;
    }

    int can(int step) {
        return minutes(step) < 0 ? -1 : open(step, known) ? 1 : 0;
    }

    int done(int step) {
        if (can(step) != 1) {
            return -1;
        }
        known = behind(step, known);
        return bits(known);
    }

    /** Every row of steps from what is known, without a piece; none goes on behind a wish (null: all do). */
    private void rows(Found from, Set<Integer> wish, int without, List<Found> all) {
        all.add(from);
        if (wish != null && from.known().containsAll(wish)) {
            return;
        }
        for (int step = 0; step < 2 * pieces.size(); step++) {
            if (step / 2 == without || !open(step, from.known())) {
                continue;
            }
            Set<Integer> then = behind(step, from.known());
            if (!then.equals(from.known())) {
                List<Integer> steps = new ArrayList<>(from.steps());
                steps.add(step);
                rows(new Found(steps, from.minutes() + minutes(step), then), wish, without, all);
            }
        }
    }

    private List<Found> rows(Set<Integer> wish, int without) {
        List<Found> all = new ArrayList<>();
        rows(new Found(new ArrayList<>(), 0, known), wish, without, all);
        return all;
    }

    private static int firstDifference(List<Integer> a, List<Integer> b) {
        for (int i = 0; i < a.size() && i < b.size(); i++) {
            if (!a.get(i).equals(b.get(i))) {
                return a.get(i) - b.get(i);
            }
        }
        return a.size() - b.size();
    }

    private static final Comparator<Found> ORDER = Comparator.comparingInt(Found::minutes)
        .thenComparingInt(f -> f.steps().size())
        .thenComparing(Found::steps, PlainModel::firstDifference);

    private Found best(int wish, int without) {
        Set<Integer> all = set(wish);
        if (!there(all)) {
            return null;
        }
        return rows(all, without).stream().filter(f -> f.known().containsAll(all)).min(ORDER).orElse(null);
    }

    int way(int wish) {
        Found found = best(wish, -1);
        if (found == null) {
            return -1;
        }
        row = found.steps();
        return found.minutes();
    }

    int step(int i) {
        return i >= 0 && i < row.size() ? row.get(i) : -1;
    }

    int most(int minutes) {
        if (minutes < 0 || minutes > 10000) {
            return -1;
        }
        Comparator<Found> richest = Comparator.comparingInt(f -> -worth(f.known()));
        Found found = rows(null, -1).stream().filter(f -> f.minutes() <= minutes)
            .min(richest.thenComparing(ORDER)).orElseThrow();
        row = found.steps();
        return worth(found.known());
    }

    int reach() {
        Set<Integer> all = new TreeSet<>();
        rows(null, -1).forEach(f -> all.addAll(f.known()));
        return bits(all);
    }

    int gaps() {
        Set<Integer> all = new TreeSet<>();
        pieces.forEach(p -> all.addAll(p.needs()));
        pieces.forEach(p -> all.removeAll(whole(p.gives())));
        all.removeAll(known);
        return bits(all);
    }

    int shortens(int piece, int wish) {
        Found with = best(wish, -1);
        if (piece < 0 || piece >= pieces.size() || with == null) {
            return -1;
        }
        Found without = best(wish, piece);
        return without == null ? -2 : without.minutes() - with.minutes();
    }

    boolean week(int week, int minutes) {
        if (week < 0 || week > 51 || minutes < 0 || minutes > 3000) {
            return false;
        }
        weeks[week] = minutes;
        return true;
    }

    int lay(int from) {
        if (from < 0 || from > 51) {
            return -1;
        }
        int[] left = weeks.clone();
        List<Integer> rowLaid = new ArrayList<>();
        int last = from;
        for (int step : row) {
            int needed = minutes(step);
            int week = last;
            while (week < 52 && left[week] < needed) {
                week++;
            }
            if (needed < 0 || week == 52) {
                return -2;
            }
            left[week] -= needed;
            rowLaid.add(week);
            last = week;
        }
        laid = rowLaid;
        return last;
    }

    int laid(int i) {
        return i >= 0 && i < laid.size() ? laid.get(i) : -1;
    }

    private List<Set<Integer>> allStates() {
        List<Set<Integer>> all = new ArrayList<>();
        for (int bits = 0; bits < 1 << topics.size(); bits++) {
            Set<Integer> some = set(bits);
            boolean agrees = whole(some).equals(some);
            for (int t = 0; t < topics.size(); t++) {
                agrees &= answers[t] == 0 || some.contains(t) == (answers[t] > 0);
            }
            if (agrees) {
                all.add(some);
            }
        }
        return all;
    }

    int answer(int topic, boolean is) {
        if (topic < 0 || topic >= topics.size() || answers[topic] != 0) {
            return -1;
        }
        answers[topic] = is ? 1 : -1;
        int left = states();
        if (left == 0) {
            answers[topic] = 0;
            return -1;
        }
        return left;
    }

    int ask() {
        java.util.Arrays.fill(answers, 0);
        return states();
    }

    int states() {
        return allStates().size();
    }

    private static List<Set<Integer>> half(List<Set<Integer>> all, int topic, boolean with) {
        return all.stream().filter(s -> s.contains(topic) == with).toList();
    }

    private int question(List<Set<Integer>> all) {
        int best = -1;
        int fewest = Integer.MAX_VALUE;
        for (int t = topics.size() - 1; t >= 0; t--) {
            int with = half(all, t, true).size();
            int without = half(all, t, false).size();
            if (answers[t] == 0 && with > 0 && without > 0 && Math.max(with, without) <= fewest) {
                best = t;
                fewest = Math.max(with, without);
            }
        }
        return best;
    }

    int question() {
        return question(allStates());
    }

    private int worst(List<Set<Integer>> all) {
        if (all.size() == 1) {
            return 0;
        }
        int topic = question(all);
        return 1 + Math.max(worst(half(all, topic, true)), worst(half(all, topic, false)));
    }

    int worst() {
        return states() > 64 ? -1 : worst(allStates());
    }

    int settle() {
        Set<Integer> common = new HashSet<>(allStates().get(0));
        allStates().forEach(common::retainAll);
        known = new TreeSet<>(common);
        return bits(known);
    }

    /** NONE where the class throws: a state has no bits below 0. */
    int state(int i) {
        List<Set<Integer>> all = allStates();
        return i >= 0 && i < all.size() ? bits(all.get(i)) : -1;
    }
}
