import java.util.NoSuchElementException;
import java.util.Random;

/**
 * No call throws but state(), and none but the refused ones' NONE is due for what is far off;
 * also on a full shelf, for which the plain model is too slow.
 */
public final class AnyArgumentsTest {
    private static final Check CHECK = new Check("AnyArgumentsTest");
    private static final int[] STRANGE = {
        Integer.MIN_VALUE, Integer.MIN_VALUE + 1, -4096, -33, -32, -3, -2, -1, 0, 1, 2, 3, 11, 12, 13, 14, 15, 27, 28,
        29, 31, 32, 33, 51, 52, 63, 64, 400, 401, 3000, 3001, 4095, 4096, 10000, 10001, 1 << 30, Integer.MAX_VALUE,
    };

    public static void main(String[] args) {
        for (int seed = 0; seed < 400; seed++) {
            storm(seed);
        }
        farOff();
        fullShelf();
        CHECK.end();
    }

    private static void storm(int seed) {
        Random random = new Random(seed);
        WhatToRead x = new WhatToRead();
        for (int call = 0; call < 512; call++) {
            int which = random.nextInt(34);
            try {
                call(x, which, random);
                CHECK.same("seed " + seed + ", call " + call, 0, 0);
            } catch (NoSuchElementException e) {
                CHECK.same("seed " + seed + ", call " + call + " is state()", which, 25);
            } catch (RuntimeException e) {
                CHECK.same("seed " + seed + ", call " + call + " to " + which + " threw " + e, 1, 0);
            }
        }
    }

    private static int any(Random random) {
        return random.nextInt(3) == 0 ? STRANGE[random.nextInt(STRANGE.length)] : random.nextInt(16);
    }

    private static void call(WhatToRead x, int which, Random r) {
        switch (which) {
            case 0: x.drop(); break;
            case 1: x.pace(any(r)); break;
            case 2: x.know(any(r)); break;
            case 3: x.count(any(r)); break;
            case 4: x.with(any(r)); break;
            case 5: x.minutes(any(r)); break;
            case 6: x.can(any(r)); break;
            case 7: x.done(any(r)); break;
            case 8: x.way(any(r)); break;
            case 9: x.step(any(r)); break;
            case 10: x.most(any(r)); break;
            case 11: x.reach(); break;
            case 12: x.gaps(); break;
            case 13: x.shortens(any(r), any(r)); break;
            case 14: x.week(any(r), any(r)); break;
            case 15: x.lay(any(r)); break;
            case 16: x.laid(any(r)); break;
            case 17: x.answer(any(r), r.nextBoolean()); break;
            case 18: x.ask(); break;
            case 19: x.states(); break;
            case 20: x.question(); break;
            case 21: x.worst(); break;
            case 22: x.settle(); break;
            case 23: x.most(r.nextInt(10001)); break;
            case 24: x.way((1 << x.count(0)) - 1); break;
            case 25: x.state(any(r)); break;
            case 26: case 27: case 28: case 29: x.topic(any(r), any(r)); break;
            default: x.piece(any(r), any(r), any(r), r.nextInt(4), any(r));
        }
    }

    private static void farOff() {
        WhatToRead x = new WhatToRead();
        x.topic(1, 0);
        x.piece(0, 0, 1, 1, 1);
        x.way(1);
        x.lay(0);
        for (int far : new int[] {Integer.MIN_VALUE, -4096, -2, -1, 52, 4096, 20000, 1 << 30, Integer.MAX_VALUE}) {
            String at = "(" + far + ")";
            CHECK.same("2 topic worth" + at, x.topic(far, 0), -1);
            CHECK.same("2 topic implies" + at, x.topic(0, far), -1);
            CHECK.same("3 piece needs" + at, x.piece(far, 0, 1, 0, 1), -1);
            CHECK.same("3 piece either" + at, x.piece(0, far, 1, 0, 1), -1);
            CHECK.same("3 piece gives" + at, x.piece(0, 0, far, 0, 1), -1);
            CHECK.same("3 piece skim" + at, x.piece(0, 0, 1, far, 1), -1);
            CHECK.same("5 pace" + at, x.pace(far), -1);
            CHECK.same("6 know" + at, x.know(far), -1);
            CHECK.same("7 count" + at, x.count(far), -1);
            CHECK.same("8 with" + at, x.with(far), -1);
            CHECK.same("9 minutes" + at, x.minutes(far), -1);
            CHECK.same("10 can" + at, x.can(far), -1);
            CHECK.same("11 done" + at, x.done(far), -1);
            CHECK.same("12 way" + at, x.way(far), -1);
            CHECK.same("13 step" + at, x.step(far), -1);
            CHECK.same("17 shortens" + at, x.shortens(far, 1), -1);
            CHECK.same("17 shortens wish" + at, x.shortens(0, far), -1);
            CHECK.same("18 week" + at, x.week(far, 0), false);
            CHECK.same("19 lay" + at, x.lay(far), -1);
            CHECK.same("20 laid" + at, x.laid(far), -1);
            CHECK.same("21 answer" + at, x.answer(far, true), -1);
            CHECK.noState(x, far);
        }
        for (int far : new int[] {Integer.MIN_VALUE, -1, 10001, Integer.MAX_VALUE}) {
            CHECK.same("14 most(" + far + ")", x.most(far), -1);
            CHECK.same("3 pages " + far, x.piece(0, 0, 1, 0, far), -1);
            CHECK.same("18 minutes " + far, x.week(0, far), false);
        }
        CHECK.row("all refused", x, 1);
    }

    /** Twelve topics, fourteen pieces, each topic skimmed: every one of the 4096 sets is reached. */
    private static void fullShelf() {
        WhatToRead x = new WhatToRead();
        for (int i = 0; i < 12; i++) {
            x.topic(9, 0);
        }
        for (int i = 0; i < 12; i++) {
            x.piece(0, 0, 1 << i, 1 << i, 3);
        }
        x.piece(0, 0, 4095, 0, 12);
        x.piece(0, 0, 4095, 4095, 37);
        for (int round = 0; round < 60; round++) {
            CHECK.same("12 all", x.way(4095), 24);
            CHECK.row("12 all", x, 24);
            CHECK.same("12 eleven", x.way(4094), 22);
            CHECK.row("12 eleven", x, 3, 5, 7, 9, 11, 13, 15, 17, 19, 21, 23);
            CHECK.same("14 all", x.most(10000), 108);
            CHECK.row("14 all", x, 24);
            CHECK.same("14 eleven", x.most(23), 99);
            CHECK.row("14 eleven", x, 1, 3, 5, 7, 9, 11, 13, 15, 17, 19, 21);
            CHECK.same("17 by nothing", x.shortens(12, 4095), 0);
            CHECK.same("17 by one", x.shortens(11, 2048), 22);
        }
    }
}
