/** Each sentence of promises 12 to 17 that names an edge, in their order; a method each. */
public final class EdgesOfWaysTest {
    private static final Check CHECK = new Check("EdgesOfWaysTest");
    private static final int[] NO_BITS_OF_FIVE = {
        Integer.MIN_VALUE, Integer.MIN_VALUE + 1, -32, -1, 32, 33, 63, 4096, 1 << 30, Integer.MAX_VALUE,
    };

    public static void main(String[] args) {
        wayMinutesOfTheBest();
        wayNoneThereIsNone();
        wayNoneOtherBits();
        wayTheLatestRowStays();
        stepOfTheLatestRow();
        stepNoneForNoneSuch();
        mostWorthInAll();
        mostOfAtMostSoManyMinutes();
        mostFrom0To10000Minutes();
        mostOfEqualOnesTheFewestMinutes();
        mostThenTheFewestSteps();
        mostThenTheFirst();
        mostRefusedAnotherTime();
        reachBySomeRow();
        gapsNeededByAPiece();
        gapsNotOfEither();
        gapsNotGivenNorImpliedByIt();
        gapsNotKnown();
        shortensByHowManyMinutes();
        shortensWithoutItThereIsNone();
        shortensNoneForNoSuchPiece();
        shortensNoneForNoSuchWish();
        shortensNoneForNoWayWithIt();
        CHECK.end();
    }

    /** Twelve topics, each given by a piece that needs the one ahead. */
    private static WhatToRead ladder(int pages) {
        WhatToRead x = Made.plain(12);
        for (int i = 0; i < 12; i++) {
            x.piece(i == 0 ? 0 : 1 << i - 1, 0, 1 << i, 0, pages);
        }
        return x;
    }

    // Promise 12: "Minutes of the BEST WAY to a WISH."
    private static void wayMinutesOfTheBest() {
        WhatToRead x = ladder(400);
        x.pace(10);
        CHECK.same("12 no wish, no minutes", x.way(0), 0);
        CHECK.row("12 no wish, no minutes", x);
        CHECK.same("12 all topics, the longest row", x.way(4095), 48000);
        CHECK.row("12 all topics, the longest row", x, 0, 2, 4, 6, 8, 10, 12, 14, 16, 18, 20, 22);
        x.know(1024);
        CHECK.same("12 one step", x.way(2048), 4000);
        CHECK.row("12 one step", x, 22);
        x.know(4095);
        CHECK.same("12 all known", x.way(4095), 0);
        CHECK.row("12 all known", x);
        CHECK.same("12 without topics and pieces", new WhatToRead().way(0), 0);

        WhatToRead y = Made.full();
        y.drop();
        y.piece(0, 0, 4095, 4095, 1);
        CHECK.same("12 by the fourteenth piece, skimmed", y.way(4095), 1);
        CHECK.row("12 by the fourteenth piece, skimmed", y, 27);
    }

    // Promise 12: "NONE: there is none"
    private static void wayNoneThereIsNone() {
        CHECK.refused("12 no pieces", () -> Made.chain(3), x -> x.way(1));
        CHECK.refused("12 never given", Made::rich, x -> x.way(16));
        CHECK.refused("12 one of the wish never given", Made::rich, x -> x.way(31));
        CHECK.refused("12 given, but never to be read", () -> {
            WhatToRead y = Made.plain(2);
            y.piece(2, 0, 1, 0, 1);
            return y;
        }, x -> x.way(1));
        CHECK.refused("12 given by what needs itself", () -> {
            WhatToRead y = Made.plain(2);
            y.piece(0, 1, 1, 1, 1);
            return y;
        }, x -> x.way(1));
        CHECK.refused("12 its piece is gone", () -> {
            WhatToRead y = Made.plain(1);
            y.piece(0, 0, 1, 0, 1);
            y.drop();
            return y;
        }, x -> x.way(1));
    }

    // Promise 12: "other bits"
    private static void wayNoneOtherBits() {
        for (int wish : NO_BITS_OF_FIVE) {
            CHECK.refused("12 way(" + wish + ")", Made::rich, x -> x.way(wish));
        }
        CHECK.refused("12 without topics", () -> new WhatToRead(), x -> x.way(1));
        CHECK.refused("12 a thirteenth", Made::full, x -> x.way(4096));
    }

    // Promise 12: "(the latest row stays)"
    private static void wayTheLatestRowStays() {
        WhatToRead x = ladder(2);
        x.topic(0, 0);
        x.way(8);
        x.know(4);
        x.drop();
        CHECK.same("12 none", x.way(2048), -1);
        CHECK.row("12 none", x, 0, 2, 4, 6);
        CHECK.same("12 other bits", x.way(4096), -1);
        CHECK.row("12 other bits", x, 0, 2, 4, 6);
        CHECK.same("12 but one without steps is one", x.way(4), 0);
        CHECK.row("12 but one without steps is one", x);
    }

    // Promise 13: "STEP i of the latest row"
    private static void stepOfTheLatestRow() {
        WhatToRead x = ladder(1);
        x.way(4095);
        CHECK.same("13 the first", x.step(0), 0);
        CHECK.same("13 the twelfth", x.step(11), 22);
        x.drop();
        CHECK.same("13 its piece is gone", x.step(11), 22);
        x.done(0);
        CHECK.same("13 done", x.step(0), 0);
        x.shortens(3, 8);
        CHECK.same("13 not of shortens()", x.count(5), 12);
        x.reach();
        CHECK.same("13 not of reach()", x.count(5), 12);
        x.most(2);
        CHECK.row("13 of most()", x, 2);
    }

    // Promise 13: "NONE for none such."
    private static void stepNoneForNoneSuch() {
        WhatToRead x = ladder(1);
        CHECK.same("13 no row yet", x.step(0), -1);
        x.way(4095);
        for (int i : new int[] {Integer.MIN_VALUE, -12, -1, 12, 13, 4096, Integer.MAX_VALUE}) {
            CHECK.same("13 step(" + i + ") of twelve", x.step(i), -1);
        }
        x.way(1);
        CHECK.same("13 behind the only one", x.step(1), -1);
        x.way(0);
        CHECK.same("13 of an empty row", x.step(0), -1);
    }

    // Promise 14: "The most WORTH in all that can be known behind a row of STEPS, each of which can be done
    // and gives something new"
    private static void mostWorthInAll() {
        WhatToRead x = new WhatToRead();
        for (int i = 0; i < 12; i++) {
            x.topic(9, 0);
            x.piece(0, 0, 1 << i, 1 << i, 1);
        }
        CHECK.same("14 all of twelve", x.most(10000), 108);
        CHECK.row("14 all of twelve", x, 1, 3, 5, 7, 9, 11, 13, 15, 17, 19, 21, 23);
        x.know(4094);
        CHECK.same("14 with what is known", x.most(10000), 108);
        CHECK.row("14 with what is known", x, 1);
        x.know(4095);
        CHECK.same("14 nothing new", x.most(10000), 108);
        CHECK.row("14 nothing new", x);

        WhatToRead y = new WhatToRead();
        CHECK.same("14 without topics and pieces", y.most(10000), 0);
        y.topic(9, 0);
        CHECK.same("14 without pieces", y.most(10000), 0);
        y.piece(1, 0, 1, 1, 1);
        CHECK.same("14 none can be done", y.most(10000), 0);
        y.know(1);
        CHECK.same("14 known, without a step", y.most(0), 9);
        CHECK.row("14 known, without a step", y);
    }

    // Promise 14: "of at most T (0 .. 10000) minutes"
    private static void mostOfAtMostSoManyMinutes() {
        WhatToRead x = Made.plain(3);
        x.piece(0, 0, 1, 0, 50);
        x.piece(1, 0, 2, 0, 25);
        x.piece(2, 0, 4, 4, 75);
        int[][] due = {{0, 0}, {99, 0}, {100, 1}, {149, 1}, {150, 2}, {199, 2}, {200, 3}, {201, 3}};
        for (int[] line : due) {
            CHECK.same("14 in " + line[0], x.most(line[0]), line[1]);
            CHECK.same("14 steps in " + line[0], x.count(5), line[1]);
        }
    }

    private static void mostFrom0To10000Minutes() {
        WhatToRead x = ladder(250);
        x.pace(10);
        CHECK.same("14 just 10000", x.most(10000), 4);
        CHECK.row("14 just 10000", x, 0, 2, 4, 6);
        CHECK.same("14 9999", x.most(9999), 3);
        CHECK.same("14 no minutes", x.most(0), 0);
        CHECK.row("14 no minutes", x);
        WhatToRead y = ladder(1);
        y.pace(1);
        CHECK.same("14 one minute", y.most(1), 1);
        CHECK.same("14 no minutes", y.most(0), 0);
    }

    // Promise 14: "the row with the most; of equal ones the fewest minutes"
    private static void mostOfEqualOnesTheFewestMinutes() {
        WhatToRead x = new WhatToRead();
        x.topic(4, 0);
        x.topic(4, 0);
        x.topic(0, 0);
        x.topic(3, 0);
        x.pace(1);
        x.piece(0, 0, 1, 0, 5);
        x.piece(0, 0, 2, 0, 4);
        x.piece(0, 0, 4, 0, 1);
        CHECK.same("14 one minute fewer, a later step", x.most(6), 4);
        CHECK.row("14 one minute fewer, a later step, nothing for no worth", x, 2);
        x.piece(0, 0, 8, 0, 1);
        CHECK.same("14 one worth more, more minutes", x.most(8), 7);
        CHECK.row("14 one worth more, more minutes", x, 2, 6);
        CHECK.same("14 the most, not the fewest minutes", x.most(4), 4);
        CHECK.row("14 the most, not the fewest minutes", x, 2);
    }

    // Promise 14: "the fewest STEPS"
    private static void mostThenTheFewestSteps() {
        WhatToRead x = new WhatToRead();
        x.topic(2, 0);
        x.topic(2, 0);
        x.topic(4, 0);
        x.pace(1);
        x.piece(0, 0, 1, 0, 2);
        x.piece(0, 0, 2, 0, 2);
        x.piece(0, 0, 4, 0, 4);
        CHECK.same("14 one step, though the first row is another", x.most(4), 4);
        CHECK.row("14 one step, though the first row is another", x, 4);
    }

    // Promise 14: "then the first."
    private static void mostThenTheFirst() {
        WhatToRead x = Made.plain(3);
        x.piece(0, 0, 4, 4, 1);
        x.piece(0, 0, 1, 1, 1);
        x.piece(0, 0, 2, 2, 1);
        CHECK.same("14 the first of three", x.most(1), 1);
        CHECK.row("14 the first of three", x, 1);
        CHECK.same("14 the first two", x.most(2), 2);
        CHECK.row("14 the first two", x, 1, 3);
    }

    // Promise 14: "Refused: another T."
    private static void mostRefusedAnotherTime() {
        for (int minutes : new int[] {Integer.MIN_VALUE, -1, 10001, 1 << 20, Integer.MAX_VALUE}) {
            CHECK.refused("14 most(" + minutes + ")", Made::rich, x -> x.most(minutes));
        }
        WhatToRead x = ladder(1);
        x.most(10);
        CHECK.same("14 most(10001)", x.most(10001), -1);
        CHECK.row("14 the latest row stays", x, 0, 2, 4, 6, 8);
    }

    // Promise 15: "TOPICS that can be known by some row of STEPS, as bits."
    private static void reachBySomeRow() {
        CHECK.same("15 without topics", new WhatToRead().reach(), 0);
        CHECK.same("15 without pieces", Made.plain(12).reach(), 0);
        CHECK.same("15 all by twelve steps", ladder(400).reach(), 4095);

        WhatToRead x = Made.plain(12);
        for (int i = 11; i >= 0; i--) {
            x.piece(i == 0 ? 0 : 1 << i - 1, 0, 1 << i, 0, 1);
        }
        CHECK.same("15 all by twelve steps, the last piece first", x.reach(), 4095);
        x.drop();
        CHECK.same("15 none without the first", x.reach(), 0);
        x.know(32);
        CHECK.same("15 what is known, and those behind it", x.reach(), 4095 - 31);
        x.know(2048);
        CHECK.same("15 what is known, though none gives it", x.reach(), 2048);

        WhatToRead y = Made.chain(4);
        y.piece(0, 2, 8, 8, 1);
        CHECK.same("15 neither of either", y.reach(), 0);
        y.piece(0, 0, 6, 0, 1);
        CHECK.same("15 with what is implied", y.reach(), 15);
        CHECK.same("15 nothing is known by that", y.count(2), 0);
        CHECK.same("15 no row", y.count(5), 0);
    }

    // Promise 16: "TOPICS that some PIECE NEEDS"
    private static void gapsNeededByAPiece() {
        CHECK.same("16 without topics", new WhatToRead().gaps(), 0);
        CHECK.same("16 without pieces", Made.plain(12).gaps(), 0);
        WhatToRead x = Made.plain(12);
        x.piece(0, 0, 1, 0, 1);
        CHECK.same("16 none is needed", x.gaps(), 0);
        x.piece(4094, 0, 1, 0, 1);
        CHECK.same("16 all others are needed", x.gaps(), 4094);
        x.drop();
        CHECK.same("16 its piece is gone", x.gaps(), 0);
        x.piece(2048, 0, 1, 0, 1);
        x.piece(2, 0, 1, 0, 1);
        CHECK.same("16 by the one or the other", x.gaps(), 2050);

        WhatToRead y = Made.full();
        y.drop();
        y.piece(2048, 0, 2, 0, 1);
        CHECK.same("16 by the fourteenth", y.gaps(), 2048);
    }

    // Promise 16: "(not EITHER)"
    private static void gapsNotOfEither() {
        WhatToRead x = Made.plain(3);
        x.piece(0, 2, 1, 0, 1);
        CHECK.same("16 one of either", x.gaps(), 0);
        x.piece(4, 6, 1, 0, 1);
        CHECK.same("16 one of both", x.gaps(), 4);
    }

    // Promise 16: "and no PIECE GIVES (or what it GIVES IMPLIES)"
    private static void gapsNotGivenNorImpliedByIt() {
        WhatToRead x = Made.chain(12);
        x.piece(2047, 0, 2048, 0, 1);
        CHECK.same("16 all that it gives implies, though it needs them", x.gaps(), 0);
        WhatToRead y = Made.plain(12);
        y.piece(2047, 0, 2048, 0, 1);
        CHECK.same("16 nothing is implied", y.gaps(), 2047);
        y.piece(0, 0, 2046, 0, 400);
        CHECK.same("16 given by another, not skimmed", y.gaps(), 1);
        y.piece(2048, 0, 1, 0, 400);
        CHECK.same("16 given by what needs one another", y.gaps(), 0);
    }

    // Promise 16: "and that are not KNOWN, as bits."
    private static void gapsNotKnown() {
        WhatToRead x = Made.plain(12);
        x.piece(4094, 0, 1, 0, 1);
        x.know(2048);
        CHECK.same("16 one is known", x.gaps(), 2046);
        x.know(4094);
        CHECK.same("16 all are known", x.gaps(), 0);
        x.know(0);
        CHECK.same("16 none is known", x.gaps(), 4094);
    }

    // Promise 17: "By how many minutes the BEST WAY to a WISH is shorter with a PIECE than without it."
    private static void shortensByHowManyMinutes() {
        WhatToRead x = Made.plain(2);
        x.pace(10);
        x.piece(0, 0, 1, 0, 400);
        x.piece(0, 0, 1, 1, 1);
        CHECK.same("17 the most", x.shortens(1, 1), 3996);
        CHECK.same("17 by nothing", x.shortens(0, 1), 0);
        CHECK.same("17 a wish of none", x.shortens(1, 0), 0);
        x.know(1);
        CHECK.same("17 a wish known", x.shortens(1, 1), 0);
        x.know(0);
        x.piece(0, 0, 1, 1, 1);
        CHECK.same("17 another just like it", x.shortens(1, 1), 0);
        CHECK.same("17 another just like it", x.shortens(2, 1), 0);

        WhatToRead y = Made.full();
        CHECK.same("17 the first of fourteen", y.shortens(0, 1), 1);
        CHECK.same("17 the last of fourteen", y.shortens(13, 1), 0);
        CHECK.same("17 by a single minute, none behind", y.shortens(1, 1), 0);
        CHECK.row("17 no row", y);
    }

    // Promise 17: "-2: without it there is none (with it there is)"
    private static void shortensWithoutItThereIsNone() {
        WhatToRead x = ladder(1);
        CHECK.same("17 the first of twelve", x.shortens(0, 2048), -2);
        CHECK.same("17 the last of twelve", x.shortens(11, 2048), -2);
        CHECK.same("17 one behind the wish", x.shortens(11, 1024), 0);
        x.know(1);
        CHECK.same("17 it gives what is known", x.shortens(0, 2048), 0);
    }

    // Promise 17: "NONE: no such PIECE"
    private static void shortensNoneForNoSuchPiece() {
        for (int piece : new int[] {Integer.MIN_VALUE, -1, 5, 14, Integer.MAX_VALUE}) {
            CHECK.refused("17 shortens(" + piece + ", 1)", Made::rich, x -> x.shortens(piece, 1));
            CHECK.refused("17 shortens(" + piece + ", 0)", Made::rich, x -> x.shortens(piece, 0));
        }
        CHECK.refused("17 without pieces", () -> Made.plain(1), x -> x.shortens(0, 0));
        CHECK.refused("17 behind the fourteenth", Made::full, x -> x.shortens(14, 1));
        WhatToRead x = ladder(1);
        x.drop();
        CHECK.same("17 gone", x.shortens(11, 1), -1);
    }

    // Promise 17: "WISH"
    private static void shortensNoneForNoSuchWish() {
        for (int wish : NO_BITS_OF_FIVE) {
            CHECK.refused("17 shortens(1, " + wish + ")", Made::rich, x -> x.shortens(1, wish));
        }
    }

    // Promise 17: "no WAY with it"
    private static void shortensNoneForNoWayWithIt() {
        CHECK.refused("17 never given", Made::rich, x -> x.shortens(1, 16));
        CHECK.refused("17 one of the wish never given", Made::rich, x -> x.shortens(1, 18));
        CHECK.refused("17 given by it, but never to be read", () -> {
            WhatToRead y = Made.plain(2);
            y.piece(2, 0, 1, 0, 1);
            return y;
        }, x -> x.shortens(0, 1));
    }
}
