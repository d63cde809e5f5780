import java.util.NoSuchElementException;
import java.util.Random;

/** All promises: long mixed runs of calls, each answer held against the plain model's. */
public final class RandomRunsTest {
    private static final Check CHECK = new Check("RandomRunsTest");
    private static final int CALLS = 512;

    private final Random random;
    private final WhatToRead x = new WhatToRead();
    private final PlainModel model = new PlainModel();
    private final int mostTopics;
    private final int mostPieces;

    private RandomRunsTest(int seed, int mostTopics, int mostPieces) {
        random = new Random(seed);
        this.mostTopics = mostTopics;
        this.mostPieces = mostPieces;
    }

    public static void main(String[] args) {
        for (int seed = 0; seed < 240; seed++) {
            // Only few topics or few pieces: the model tries every row.
            int topics = seed % 3 == 0 ? 12 : 3 + seed % 3;
            int pieces = seed % 3 == 0 ? 3 : 4;
            new RandomRunsTest(seed, topics, pieces).run(seed);
        }
        CHECK.end();
    }

    private void run(int seed) {
        for (int call = 0; call < CALLS; call++) {
            one("seed " + seed + ", call " + call + ": ");
        }
    }

    private int below(int bound) {
        return random.nextInt(bound);
    }

    /** Mostly a set of topics that there are; now and then one with others. */
    private int bits() {
        int all = 1 << x.count(0);
        switch (below(24)) {
            case 0:
                return below(2 * all);
            case 1:
                return -below(4);
            case 2:
                return below(all);
            default:
                return below(all) & below(all);
        }
    }

    private int step() {
        return below(2 * mostPieces + 3) - 1;
    }

    private void one(String at) {
        switch (below(4)) {
            case 0:
                change(at);
                break;
            case 1:
                ask(at);
                break;
            default:
                find(at);
        }
    }

    private void change(String at) {
        switch (below(9)) {
            case 0:
                if (x.count(0) < mostTopics || mostTopics == 12) {
                    int worth = below(25) == 0 ? -1 + 11 * below(2) : below(10);
                    int implies = bits() & bits();
                    CHECK.same(at + "topic " + worth + " " + implies, x.topic(worth, implies), model.topic(worth, implies));
                }
                break;
            case 1:
            case 2:
                if (x.count(1) < mostPieces) {
                    addPiece(at);
                }
                break;
            case 3:
                if (below(3) == 0) {
                    CHECK.same(at + "drop", x.drop(), model.drop());
                }
                break;
            case 4:
                int v = below(12);
                CHECK.same(at + "pace " + v, x.pace(v), model.pace(v));
                break;
            case 5:
                int known = bits() & bits();
                CHECK.same(at + "know " + known, x.know(known), model.know(known));
                break;
            case 6:
                int step = step();
                CHECK.same(at + "done " + step, x.done(step), model.done(step));
                break;
            default:
                int week = below(54) - 1;
                int minutes = below(40) == 0 ? 3001 : below(3) == 0 ? below(3001) : below(60);
                CHECK.same(at + "week " + week + " " + minutes, x.week(week, minutes), model.week(week, minutes));
        }
    }

    private void addPiece(String at) {
        int needs = below(2) == 0 ? 0 : bits() & bits();
        int either = below(2) == 0 ? 0 : bits();
        int gives = bits();
        int skim = below(12) == 0 ? bits() : gives & bits();
        // Few kinds of pages, so that rows are often equal.
        int pages = below(20) == 0 ? 401 * below(2) : below(8) == 0 ? 1 + below(400) : 3 * (1 + below(3));
        String call = "piece " + needs + " " + either + " " + gives + " " + skim + " " + pages;
        CHECK.same(at + call, x.piece(needs, either, gives, skim, pages), model.piece(needs, either, gives, skim, pages));
    }

    private void ask(String at) {
        int topic = below(x.count(0) + 2) - 1;
        switch (below(9)) {
            case 0:
            case 1:
                boolean is = below(2) == 0;
                CHECK.same(at + "answer " + topic + " " + is, x.answer(topic, is), model.answer(topic, is));
                break;
            case 2:
                if (below(3) == 0) {
                    CHECK.same(at + "ask", x.ask(), model.ask());
                }
                break;
            case 3:
                CHECK.same(at + "states", x.states(), model.states());
                break;
            case 4:
                CHECK.same(at + "question", x.question(), model.question());
                break;
            case 5:
                CHECK.same(at + "worst", x.worst(), model.worst());
                break;
            case 6:
                CHECK.same(at + "settle", x.settle(), model.settle());
                break;
            default:
                int i = below(x.states() + 2) - 1;
                CHECK.same(at + "state " + i, stateOrNone(i), model.state(i));
        }
    }

    private int stateOrNone(int i) {
        try {
            return x.state(i);
        } catch (NoSuchElementException e) {
            return -1;
        }
    }

    private void find(String at) {
        int wish = below(3) == 0 ? bits() : bits() & bits();
        int i = below(8) - 1;
        switch (below(12)) {
            case 0:
            case 1:
                CHECK.same(at + "way " + wish, x.way(wish), model.way(wish));
                break;
            case 2:
                int minutes = below(20) == 0 ? -1 + 10002 * below(2) : below(5) == 0 ? below(10001) : below(100);
                CHECK.same(at + "most " + minutes, x.most(minutes), model.most(minutes));
                break;
            case 3:
                CHECK.same(at + "step " + i, x.step(i), model.step(i));
                break;
            case 4:
                CHECK.same(at + "reach", x.reach(), model.reach());
                break;
            case 5:
                CHECK.same(at + "gaps", x.gaps(), model.gaps());
                break;
            case 6:
                int piece = below(mostPieces + 2) - 1;
                CHECK.same(at + "shortens " + piece + " " + wish, x.shortens(piece, wish), model.shortens(piece, wish));
                break;
            case 7:
                int from = below(54) - 1;
                CHECK.same(at + "lay " + from, x.lay(from), model.lay(from));
                break;
            case 8:
                CHECK.same(at + "laid " + i, x.laid(i), model.laid(i));
                break;
            case 9:
                CHECK.same(at + "with " + wish, x.with(wish), model.with(wish));
                break;
            case 10:
                CHECK.same(at + "count " + i, x.count(i), model.count(i));
                break;
            default:
                int step = step();
                CHECK.same(at + "minutes " + step, x.minutes(step), model.minutes(step));
                CHECK.same(at + "can " + step, x.can(step), model.can(step));
        }
    }
}
