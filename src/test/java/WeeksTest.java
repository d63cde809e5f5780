/** Promises 18 to 20: the minutes of weeks, and a row laid in them. */
public final class WeeksTest {
    private static final Check CHECK = new Check("WeeksTest");

    public static void main(String[] args) {
        weekMinutes();
        laying();
        neverBack();
        layingNothing();
        cannotLay();
        goneAndPace();
        twelveSteps();
        CHECK.end();
    }

    /** A row of three steps that take 100, 60 and 20 minutes. */
    private static WhatToRead threeSteps() {
        WhatToRead x = new WhatToRead();
        x.topic(1, 0);
        x.topic(1, 1);
        x.topic(1, 2);
        x.piece(0, 0, 1, 0, 50);
        x.piece(1, 0, 2, 0, 30);
        x.piece(2, 0, 4, 4, 30);
        x.way(4);
        return x;
    }

    private static void weekMinutes() {
        WhatToRead x = threeSteps();
        CHECK.same("18 week(-1, 0)", x.week(-1, 0), false);
        CHECK.same("18 week(52, 0)", x.week(52, 0), false);
        CHECK.same("18 week(0, -1)", x.week(0, -1), false);
        CHECK.same("18 week(0, 3001)", x.week(0, 3001), false);
        CHECK.same("18 lowest int", x.week(Integer.MIN_VALUE, Integer.MIN_VALUE), false);
        CHECK.same("18 refused", x.lay(0), 0);
        CHECK.same("18 week(0, 0)", x.week(0, 0), true);
        CHECK.same("18 week(51, 0)", x.week(51, 0), true);
        CHECK.same("18 changed", x.lay(0), 1);
        CHECK.same("18 changed", x.lay(51), -2);
        CHECK.same("18 week(51, 3000)", x.week(51, 3000), true);
        CHECK.same("18 changed again", x.lay(51), 51);
        CHECK.same("18 at first 300", x.pace(5) == 2 && x.lay(2) == 3, true);
        CHECK.laid("18 at first 300", x, 2, 3, 3);

        WhatToRead y = new WhatToRead();
        y.topic(1, 0);
        y.topic(1, 0);
        y.piece(0, 0, 1, 0, 150);
        y.piece(0, 0, 2, 0, 301);
        y.way(1);
        CHECK.same("18 at first just 300", y.lay(9), 9);
        y.pace(1);
        y.way(2);
        CHECK.same("18 at first not 301", y.lay(9), -2);
    }

    private static void laying() {
        WhatToRead x = threeSteps();
        CHECK.row("19 the row", x, 0, 2, 5);
        CHECK.same("19 lay(0)", x.lay(0), 0);
        CHECK.laid("19 lay(0)", x, 0, 0, 0);
        x.week(0, 180);
        CHECK.same("19 just enough", x.lay(0), 0);
        x.week(0, 179);
        CHECK.same("19 one too few", x.lay(0), 1);
        CHECK.laid("19 one too few", x, 0, 0, 1);
        x.week(0, 99);
        x.week(1, 159);
        x.week(2, 59);
        CHECK.same("19 some pass by", x.lay(0), 3);
        CHECK.laid("19 some pass by", x, 1, 3, 3);
        CHECK.same("19 the same again", x.lay(0), 3);
        CHECK.laid("20 the same again", x, 1, 3, 3);
    }

    private static void neverBack() {
        WhatToRead x = threeSteps();
        x.week(0, 120);
        CHECK.same("19 never ahead of the one ahead", x.lay(0), 1);
        CHECK.laid("19 never ahead of the one ahead", x, 0, 1, 1);
    }

    private static void layingNothing() {
        WhatToRead x = new WhatToRead();
        x.week(7, 0);
        CHECK.same("19 no row yet", x.lay(7), 7);
        CHECK.same("19 lay(-1)", x.lay(-1), -1);
        CHECK.same("19 lay(52)", x.lay(52), -1);
        CHECK.laid("20 nothing", x);

        WhatToRead y = threeSteps();
        CHECK.laid("20 never laid", y);
        y.lay(3);
        y.way(0);
        CHECK.laid("20 a new row is not laid", y, 3, 3, 3);
        CHECK.same("19 no steps", y.lay(51), 51);
        CHECK.laid("20 no steps", y);
    }

    private static void cannotLay() {
        WhatToRead x = threeSteps();
        x.lay(4);
        for (int week = 0; week < 52; week++) {
            x.week(week, week == 51 ? 100 : 0);
        }
        CHECK.same("19 the second finds none", x.lay(0), -2);
        CHECK.same("19 no such week comes first", x.lay(52), -1);
        CHECK.same("19 no such week comes first", x.lay(-1), -1);
        CHECK.laid("20 the latest that could be", x, 4, 4, 4);
        x.week(50, 160);
        CHECK.same("19 in the last two", x.lay(0), 51);
        CHECK.laid("20 in the last two", x, 50, 50, 51);
        CHECK.same("19 not in the last", x.lay(51), -2);
        CHECK.same("20 lowest int", x.laid(Integer.MIN_VALUE), -1);
        CHECK.same("20 highest int", x.laid(Integer.MAX_VALUE), -1);
    }

    private static void goneAndPace() {
        WhatToRead x = threeSteps();
        x.pace(4);
        CHECK.same("19 at the pace of now", x.lay(0), 1);
        CHECK.laid("19 at the pace of now", x, 0, 1, 1);
        x.drop();
        CHECK.same("19 a piece is gone", x.lay(0), -2);
        CHECK.laid("20 a piece is gone", x, 0, 1, 1);
        CHECK.same("19 no such week comes first", x.lay(52), -1);
    }

    private static void twelveSteps() {
        WhatToRead x = new WhatToRead();
        x.pace(10);
        for (int i = 0; i < 12; i++) {
            x.topic(1, 0);
            x.piece(i == 0 ? 0 : 1 << i - 1, 0, 1 << i, 0, 30);
        }
        x.way(1 << 11);
        CHECK.same("19 a week each", x.lay(40), 51);
        CHECK.laid("20 a week each", x, 40, 41, 42, 43, 44, 45, 46, 47, 48, 49, 50, 51);
        CHECK.same("19 a week too few", x.lay(41), -2);
    }
}
