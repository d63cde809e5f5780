/** Each sentence of promises 18 to 20 that names an edge, in their order; a method each. */
public final class EdgesOfWeeksTest {
    private static final Check CHECK = new Check("EdgesOfWeeksTest");

    public static void main(String[] args) {
        weekTrue();
        weekRefusedWeeks();
        weekRefusedMinutes();
        layTheWeekOfItsLastStep();
        layTheWeekToldWithoutSteps();
        layCannotBe();
        layAPieceOfItIsGone();
        layNoneForNoSuchWeek();
        laidOfTheLatestThatCouldBe();
        laidNoneForNoneSuch();
        CHECK.end();
    }

    /** A row of twelve steps of 300 minutes each. */
    private static WhatToRead twelveSteps() {
        WhatToRead x = Made.plain(12);
        for (int i = 0; i < 12; i++) {
            x.piece(i == 0 ? 0 : 1 << i - 1, 0, 1 << i, 0, 150);
        }
        x.way(2048);
        return x;
    }

    // Promise 18: "MINUTES of a WEEK: true."
    private static void weekTrue() {
        WhatToRead x = twelveSteps();
        CHECK.same("18 the first, the most", x.week(0, 3000), true);
        CHECK.same("18 the last, none", x.week(51, 0), true);
        CHECK.same("18 ten in the first, two behind it", x.lay(0), 2);
        CHECK.laid("18 ten in the first", x, 0, 0, 0, 0, 0, 0, 0, 0, 0, 0, 1, 2);
        CHECK.same("18 the first, none", x.week(0, 0), true);
        CHECK.same("18 none in the first", x.lay(0), 12);
        CHECK.same("18 none in the last", x.lay(40), -2);
        CHECK.same("18 the last, the most", x.week(51, 3000), true);
        CHECK.same("18 the rest in the last", x.lay(49), 51);
        CHECK.laid("18 the rest in the last", x, 49, 50, 51, 51, 51, 51, 51, 51, 51, 51, 51, 51);
        CHECK.same("18 one too many for the last", x.lay(51), -2);
    }

    // Promise 18: "Refused: others."
    private static void weekRefusedWeeks() {
        for (int week : new int[] {Integer.MIN_VALUE, -52, -1, 52, 53, 104, Integer.MAX_VALUE}) {
            CHECK.same("18 week(" + week + ", 0)", Made.rich().week(week, 0), false);
            CHECK.refused("18 week(" + week + ", 0)", Made::rich, x -> x.week(week, 0) ? 1 : -1);
        }
    }

    private static void weekRefusedMinutes() {
        for (int minutes : new int[] {Integer.MIN_VALUE, -300, -1, 3001, 1 << 16, Integer.MAX_VALUE}) {
            for (int week : new int[] {0, 1, 2, 51}) {
                CHECK.same("18 week(" + week + ", " + minutes + ")", Made.rich().week(week, minutes), false);
                CHECK.refused("18 week(" + week + ", " + minutes + ")", Made::rich, x -> x.week(week, minutes) ? 1 : -1);
            }
        }
    }

    // Promise 19: "The latest row LAID from a WEEK on: the WEEK of its last STEP"
    private static void layTheWeekOfItsLastStep() {
        WhatToRead x = twelveSteps();
        CHECK.same("19 from the first", x.lay(0), 11);
        CHECK.same("19 the last twelve", x.lay(40), 51);
        x.most(300);
        CHECK.same("19 a row of most()", x.lay(51), 51);
        CHECK.laid("19 a row of most()", x, 51);
        x.pace(1);
        x.way(2048);
        CHECK.same("19 two a week, at the pace of now", x.lay(46), 51);
        CHECK.laid("19 two a week", x, 46, 46, 47, 47, 48, 48, 49, 49, 50, 50, 51, 51);
    }

    // Promise 19: "(the WEEK told without STEPS)"
    private static void layTheWeekToldWithoutSteps() {
        for (int week = 0; week < 52; week++) {
            CHECK.same("19 no row yet", new WhatToRead().lay(week), week);
        }
        WhatToRead x = twelveSteps();
        x.week(51, 0);
        x.way(0);
        CHECK.same("19 a row without steps", x.lay(51), 51);
        CHECK.laid("19 a row without steps", x);
        CHECK.same("19 a row without steps", x.lay(0), 0);
    }

    // Promise 19: "-2: it can't be"
    private static void layCannotBe() {
        WhatToRead x = twelveSteps();
        CHECK.same("19 eleven weeks for twelve steps", x.lay(41), -2);
        CHECK.same("19 a week for twelve steps", x.lay(51), -2);
        x.week(45, 299);
        CHECK.same("19 a minute too few in one of twelve", x.lay(40), -2);
        CHECK.same("19 one week more", x.lay(39), 51);
        WhatToRead y = twelveSteps();
        y.pace(10);
        CHECK.same("19 no week for the first step", y.lay(0), -2);
    }

    // Promise 19: "(also if a PIECE of it is gone)"
    private static void layAPieceOfItIsGone() {
        WhatToRead x = twelveSteps();
        x.lay(7);
        x.drop();
        CHECK.same("19 its last is gone", x.lay(0), -2);
        CHECK.laid("19 laid before", x, 7, 8, 9, 10, 11, 12, 13, 14, 15, 16, 17, 18);
        x.way(2);
        CHECK.same("19 a row of those that are left", x.lay(0), 1);
        for (int left = 10; left >= 2; left--) {
            x.drop();
            CHECK.same("19 a piece of no step is gone", x.lay(0), 1);
        }
        x.drop();
        CHECK.same("19 the second is gone", x.lay(0), -2);
        x.drop();
        CHECK.same("19 all are gone", x.lay(0), -2);
        x.way(0);
        CHECK.same("19 no steps, so none is gone", x.lay(0), 0);
    }

    // Promise 19: "NONE: no such WEEK."
    private static void layNoneForNoSuchWeek() {
        for (int week : new int[] {Integer.MIN_VALUE, -52, -1, 52, 53, 104, Integer.MAX_VALUE}) {
            CHECK.refused("19 lay(" + week + ")", Made::rich, x -> x.lay(week));
            CHECK.refused("19 no row, lay(" + week + ")", () -> new WhatToRead(), x -> x.lay(week));
        }
    }

    // Promise 20: "The WEEK of STEP i of the latest lay() that could be"
    private static void laidOfTheLatestThatCouldBe() {
        WhatToRead x = twelveSteps();
        x.lay(40);
        x.lay(41);
        CHECK.same("20 the first, of the one that could be", x.laid(0), 40);
        CHECK.same("20 the twelfth, of the one that could be", x.laid(11), 51);
        x.lay(52);
        CHECK.same("20 the refused one laid nothing", x.laid(11), 51);
        x.way(2);
        CHECK.same("20 the new row is not laid", x.laid(11), 51);
        x.pace(1);
        CHECK.same("20 laid at the pace before", x.laid(11), 51);
        x.week(40, 0);
        CHECK.same("20 laid in the week of before", x.laid(0), 40);
        CHECK.same("20 the shorter row", x.lay(41), 41);
        CHECK.laid("20 the shorter row", x, 41, 41);
    }

    // Promise 20: "NONE for none such."
    private static void laidNoneForNoneSuch() {
        WhatToRead x = twelveSteps();
        CHECK.same("20 never laid", x.laid(0), -1);
        x.lay(41);
        CHECK.same("20 never one that could be", x.laid(0), -1);
        x.lay(0);
        for (int i : new int[] {Integer.MIN_VALUE, -12, -1, 12, 13, 52, 4096, Integer.MAX_VALUE}) {
            CHECK.same("20 laid(" + i + ") of twelve", x.laid(i), -1);
        }
        x.way(0);
        x.lay(0);
        CHECK.same("20 of a row without steps", x.laid(0), -1);
    }
}
