/** Promises 12 to 17: the best way, the most worth, reach, gaps, what a piece shortens. */
public final class WaysTest {
    private static final Check CHECK = new Check("WaysTest");

    public static void main(String[] args) {
        wayByMinutes();
        wayByFewestSteps();
        wayByFirstRow();
        wayRefused();
        wayFromKnown();
        longestWay();
        stepOfRow();
        mostWorth();
        mostTies();
        mostRefused();
        reaching();
        gapsOfShelf();
        shortening();
        CHECK.end();
    }

    private static WhatToRead plainTopics(int count) {
        WhatToRead x = new WhatToRead();
        for (int i = 0; i < count; i++) {
            x.topic(1, 0);
        }
        return x;
    }

    private static void wayByMinutes() {
        WhatToRead x = plainTopics(3);
        x.piece(0, 0, 7, 0, 10);
        x.piece(0, 0, 1, 0, 3);
        x.piece(1, 0, 2, 0, 3);
        x.piece(0, 2, 4, 0, 3);
        CHECK.same("12 three short ones", x.way(7), 18);
        CHECK.row("12 three short ones", x, 2, 4, 6);
        CHECK.same("12 the last needs the others", x.way(4), 18);
        x.drop();
        CHECK.same("12 one long one", x.way(7), 20);
        CHECK.row("12 one long one", x, 0);
        CHECK.same("12 stops at the wish", x.way(1), 6);
        CHECK.row("12 stops at the wish", x, 2);
    }

    private static void wayByFewestSteps() {
        WhatToRead x = plainTopics(2);
        x.piece(0, 0, 1, 0, 3);
        x.piece(0, 0, 2, 0, 3);
        x.piece(0, 0, 3, 0, 6);
        CHECK.same("12 equal minutes", x.way(3), 12);
        CHECK.row("12 fewest steps", x, 4);
    }

    private static void wayByFirstRow() {
        WhatToRead x = plainTopics(3);
        x.piece(0, 0, 2, 2, 3);
        x.piece(0, 0, 1, 1, 3);
        x.piece(0, 0, 1, 1, 3);
        CHECK.same("12 first row", x.way(3), 4);
        CHECK.row("12 first row", x, 1, 3);
        x.piece(3, 0, 4, 0, 1);
        x.piece(3, 0, 4, 0, 1);
        CHECK.same("12 first row of three", x.way(4), 6);
        CHECK.row("12 first row of three", x, 1, 3, 6);

        WhatToRead y = plainTopics(3);
        y.piece(2, 0, 1, 0, 3);
        y.piece(1, 0, 2, 0, 3);
        y.piece(0, 0, 2, 0, 3);
        y.piece(0, 0, 1, 0, 3);
        CHECK.same("12 less at the first difference", y.way(3), 12);
        CHECK.row("12 less at the first difference", y, 4, 0);
    }

    private static void wayRefused() {
        WhatToRead x = plainTopics(3);
        x.piece(0, 0, 1, 0, 3);
        x.piece(4, 0, 2, 0, 3);
        x.piece(2, 0, 4, 0, 3);
        CHECK.same("12 way(1)", x.way(1), 6);
        CHECK.same("12 none", x.way(2), -1);
        CHECK.same("12 none of both", x.way(3), -1);
        CHECK.same("12 way(8)", x.way(8), -1);
        CHECK.same("12 way(9)", x.way(9), -1);
        CHECK.same("12 way(-1)", x.way(-1), -1);
        CHECK.same("12 lowest int", x.way(Integer.MIN_VALUE), -1);
        CHECK.row("12 the latest row stays", x, 0);
        CHECK.same("12 way(0)", x.way(0), 0);
        CHECK.row("12 an empty row", x);
    }

    private static void wayFromKnown() {
        WhatToRead x = new WhatToRead();
        x.topic(1, 0);
        x.topic(1, 1);
        x.topic(1, 0);
        x.piece(0, 0, 2, 0, 10);
        x.piece(1, 0, 4, 0, 10);
        CHECK.same("12 given brings what it implies", x.way(4), 40);
        CHECK.row("12 given brings what it implies", x, 0, 2);
        x.know(1);
        CHECK.same("12 from known", x.way(4), 20);
        CHECK.row("12 from known", x, 2);
        CHECK.same("12 wish known", x.way(1), 0);
        CHECK.row("12 wish known", x);
        x.pace(10);
        CHECK.same("12 pace", x.way(6), 200);
        CHECK.same("12 known stays", x.count(2), 1);
        x.drop();
        x.piece(0, 0, 6, 2, 27);
        x.know(0);
        x.pace(1);
        CHECK.same("12 skimmed brings what it implies", x.way(1), 9);
        CHECK.row("12 skimmed brings what it implies", x, 3);
    }

    private static void longestWay() {
        WhatToRead x = plainTopics(12);
        x.pace(10);
        for (int i = 0; i < 12; i++) {
            x.piece(i == 0 ? 0 : 1 << i - 1, 0, 1 << i, 0, 400);
        }
        CHECK.same("12 twelve steps", x.way(1 << 11), 48000);
        CHECK.row("12 twelve steps", x, 0, 2, 4, 6, 8, 10, 12, 14, 16, 18, 20, 22);
        CHECK.same("14 two and a half", x.most(10000), 2);
        CHECK.row("14 two and a half", x, 0, 2);
        CHECK.same("15 all", x.reach(), 4095);

        WhatToRead y = plainTopics(12);
        y.piece(0, 0, 1, 0, 400);
        y.piece(0, 0, 1, 0, 400);
        for (int i = 11; i >= 0; i--) {
            y.piece(0, 0, 1 << i, 1 << i, 400);
        }
        CHECK.same("12 any order", y.way(4095), 12 * 267);
        CHECK.row("12 any order", y, 5, 7, 9, 11, 13, 15, 17, 19, 21, 23, 25, 27);
    }

    private static void stepOfRow() {
        WhatToRead x = plainTopics(2);
        CHECK.row("13 no row yet", x);
        x.piece(0, 0, 3, 1, 9);
        x.way(1);
        CHECK.row("13 a row", x, 1);
        x.drop();
        CHECK.row("13 its piece is gone", x, 1);
        CHECK.same("13 lowest int", x.step(Integer.MIN_VALUE), -1);
        CHECK.same("13 highest int", x.step(Integer.MAX_VALUE), -1);
    }

    private static void mostWorth() {
        WhatToRead x = new WhatToRead();
        x.topic(4, 0);
        x.topic(6, 0);
        x.topic(3, 0);
        x.piece(0, 0, 1, 0, 10);
        x.piece(1, 0, 2, 0, 10);
        x.piece(0, 0, 4, 4, 10);
        int[][] due = {{0, 0}, {6, 0}, {7, 3, 5}, {19, 3, 5}, {20, 4, 0}, {26, 4, 0}, {27, 7, 0, 5},
            {39, 7, 0, 5}, {40, 10, 0, 2}, {46, 10, 0, 2}, {47, 13, 0, 2, 5}, {10000, 13, 0, 2, 5}};
        for (int[] line : due) {
            CHECK.same("14 most(" + line[0] + ")", x.most(line[0]), line[1]);
            CHECK.row("14 most(" + line[0] + ")", x, java.util.Arrays.copyOfRange(line, 2, line.length));
        }
        x.know(2);
        CHECK.same("14 what is known counts", x.most(7), 9);
        CHECK.row("14 what is known counts", x, 5);
        CHECK.same("14 known stays", x.count(2), 2);
    }

    private static void mostTies() {
        WhatToRead x = new WhatToRead();
        x.topic(0, 0);
        x.topic(5, 0);
        x.topic(5, 0);
        x.topic(2, 0);
        x.topic(3, 0);
        x.piece(0, 0, 1, 0, 1);
        CHECK.same("14 nothing for nothing", x.most(100), 0);
        CHECK.row("14 nothing for nothing", x);
        x.piece(0, 0, 4, 0, 6);
        x.piece(0, 0, 2, 0, 5);
        CHECK.same("14 fewest minutes", x.most(12), 5);
        CHECK.row("14 fewest minutes", x, 4);
        x.drop();
        x.piece(0, 0, 8, 0, 3);
        x.piece(0, 0, 16, 0, 3);
        CHECK.same("14 fewest steps", x.most(12), 5);
        CHECK.row("14 fewest steps", x, 2);
        x.piece(0, 0, 2, 0, 6);
        CHECK.same("14 the first of other topics", x.most(13), 5);
        CHECK.row("14 the first of other topics", x, 2);

        WhatToRead y = new WhatToRead();
        y.topic(5, 0);
        y.topic(5, 0);
        y.piece(0, 0, 2, 0, 6);
        y.piece(0, 0, 1, 0, 6);
        CHECK.same("14 the first, not the lesser bits", y.most(12), 5);
        CHECK.row("14 the first, not the lesser bits", y, 0);
    }

    private static void mostRefused() {
        WhatToRead x = plainTopics(1);
        x.piece(0, 0, 1, 0, 1);
        x.most(2);
        CHECK.same("14 most(-1)", x.most(-1), -1);
        CHECK.same("14 most(10001)", x.most(10001), -1);
        CHECK.same("14 lowest int", x.most(Integer.MIN_VALUE), -1);
        CHECK.row("14 the latest row stays", x, 0);
        CHECK.same("14 most(1)", x.most(1), 0);
        CHECK.row("14 an empty row", x);
    }

    private static void reaching() {
        WhatToRead x = new WhatToRead();
        x.topic(1, 0);
        x.topic(1, 1);
        x.topic(1, 0);
        x.topic(1, 0);
        x.topic(1, 0);
        x.piece(4, 0, 8, 0, 400);
        x.piece(0, 1, 4, 0, 400);
        CHECK.same("15 nothing open", x.reach(), 0);
        x.know(16);
        CHECK.same("15 what is known", x.reach(), 16);
        x.piece(16, 0, 2, 0, 400);
        CHECK.same("15 all behind one another", x.reach(), 31);
        CHECK.same("15 known stays", x.count(2), 16);
        CHECK.same("15 no row", x.count(5), 0);
        x.know(0);
        CHECK.same("15 without it", x.reach(), 0);
    }

    private static void gapsOfShelf() {
        WhatToRead x = new WhatToRead();
        for (int i = 0; i < 6; i++) {
            x.topic(1, i == 1 ? 1 : 0);
        }
        x.piece(1, 0, 8, 0, 1);
        CHECK.same("16 needed, not given", x.gaps(), 1);
        x.piece(4, 16, 8, 0, 1);
        CHECK.same("16 either does not count", x.gaps(), 5);
        x.piece(32, 0, 2, 0, 1);
        CHECK.same("16 what is given implies", x.gaps(), 36);
        x.know(4);
        CHECK.same("16 known", x.gaps(), 32);
        x.drop();
        CHECK.same("16 its piece is gone", x.gaps(), 1);
        x.piece(8, 0, 8, 0, 1);
        CHECK.same("16 given, though never to be read", x.gaps(), 1);
        x.know(0);
        CHECK.same("16 not known any more", x.gaps(), 5);

        WhatToRead z = plainTopics(3);
        z.piece(0, 0, 1, 0, 1);
        z.piece(0, 0, 2, 0, 1);
        z.piece(7, 0, 2, 0, 1);
        CHECK.same("16 given by any", z.gaps(), 4);
        z.piece(0, 4, 1, 0, 1);
        CHECK.same("16 needed by any", z.gaps(), 4);

        WhatToRead y = new WhatToRead();
        y.topic(1, 0);
        y.topic(1, 1);
        y.topic(1, 0);
        y.piece(2, 0, 4, 0, 1);
        CHECK.same("16 needed as told, not what that implies", y.gaps(), 2);
    }

    private static void shortening() {
        WhatToRead x = plainTopics(4);
        x.piece(0, 0, 1, 0, 10);
        x.piece(0, 0, 1, 0, 4);
        x.piece(1, 0, 2, 0, 5);
        x.piece(8, 0, 4, 0, 5);
        CHECK.same("17 shorter by some", x.shortens(1, 1), 12);
        CHECK.same("17 shorter on the way", x.shortens(1, 2), 12);
        CHECK.same("17 the longer one", x.shortens(0, 1), 0);
        CHECK.same("17 none without it", x.shortens(2, 2), -2);
        CHECK.same("17 none with it", x.shortens(3, 4), -1);
        CHECK.same("17 the last piece", x.shortens(3, 2), 0);
        CHECK.same("17 none with it and others", x.shortens(2, 6), -1);
        CHECK.same("17 wish known", x.shortens(1, 0), 0);
        CHECK.same("17 no such piece", x.shortens(4, 1), -1);
        CHECK.same("17 no such piece", x.shortens(-1, 1), -1);
        CHECK.same("17 no such wish", x.shortens(1, 16), -1);
        CHECK.same("17 no such wish", x.shortens(1, -1), -1);
        CHECK.same("17 no such wish, for a needed piece", x.shortens(2, 18), -1);
        CHECK.row("17 no row", x);
        x.way(1);
        x.shortens(2, 2);
        CHECK.row("17 the latest row stays", x, 2);
        x.know(2);
        CHECK.same("17 from known", x.shortens(2, 2), 0);
    }
}
