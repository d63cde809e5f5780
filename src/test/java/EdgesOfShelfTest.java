/** Each sentence of promises 1 to 11 that names an edge, in their order; a method each. */
public final class EdgesOfShelfTest {
    private static final Check CHECK = new Check("EdgesOfShelfTest");
    private static final int[] NO_BITS_OF_FIVE = {
        Integer.MIN_VALUE, Integer.MIN_VALUE + 1, -32, -1, 32, 33, 63, 4096, 1 << 30, Integer.MAX_VALUE,
    };

    public static void main(String[] args) {
        newObjectHasNoTopics();
        newObjectHasNoPieces();
        newObjectKnowsNothing();
        newObjectHasNothingAnswered();
        newObjectsShareNothing();
        topicItsNumber();
        topicRefusedOthers();
        topicRefusedAnotherWorth();
        topicRefusedTheThirteenth();
        pieceItsNumber();
        pieceRefusedTopicsThatThereAreNot();
        pieceRefusedSkimNotOfGives();
        pieceRefusedNoGives();
        pieceRefusedPages();
        pieceRefusedTheFifteenth();
        dropTheLastIsGone();
        dropNoneWithoutOne();
        paceWhatItWas();
        paceRefusedOthers();
        knowWithWhatTheyImply();
        knowRefusedOthers();
        countOfEach();
        countNoneForAnotherWhat();
        withAllThatTheyImply();
        withNoneForOthers();
        minutesOfAStep();
        minutesNoneForNoSuchPiece();
        canNowOneElseNought();
        canNoneForNoSuchPiece();
        doneKnownThen();
        doneRefusedNoSuchPiece();
        doneRefusedWhatCannotBeDone();
        CHECK.end();
    }

    // Promise 1: "No TOPICS, PIECES; nothing KNOWN, answered."
    private static void newObjectHasNoTopics() {
        CHECK.same("1 topics", new WhatToRead().count(0), 0);
        CHECK.same("1 the topics' first number", new WhatToRead().topic(1, 0), 0);
        CHECK.same("1 with none", new WhatToRead().with(0), 0);
        CHECK.same("1 with the first", new WhatToRead().with(1), -1);
        CHECK.same("1 implies the first", new WhatToRead().topic(1, 1), -1);
        CHECK.same("1 a wish of none", new WhatToRead().way(0), 0);
        CHECK.same("1 a wish of the first", new WhatToRead().way(1), -1);
    }

    private static void newObjectHasNoPieces() {
        CHECK.same("1 pieces", new WhatToRead().count(1), 0);
        CHECK.same("1 drop()", new WhatToRead().drop(), -1);
        CHECK.same("1 minutes(0)", new WhatToRead().minutes(0), -1);
        CHECK.same("1 can(0)", new WhatToRead().can(0), -1);
        CHECK.same("1 done(0)", new WhatToRead().done(0), -1);
        CHECK.same("1 shortens(0, 0)", new WhatToRead().shortens(0, 0), -1);
        CHECK.same("1 gaps()", new WhatToRead().gaps(), 0);
        CHECK.same("1 steps of the latest row", new WhatToRead().count(5), 0);
        CHECK.same("1 step(0)", new WhatToRead().step(0), -1);
        CHECK.same("1 laid(0)", new WhatToRead().laid(0), -1);
    }

    private static void newObjectKnowsNothing() {
        CHECK.same("1 known", new WhatToRead().count(2), 0);
        CHECK.same("1 worth of known", new WhatToRead().count(4), 0);
        CHECK.same("1 reach()", new WhatToRead().reach(), 0);
        CHECK.same("1 most(10000)", new WhatToRead().most(10000), 0);
    }

    private static void newObjectHasNothingAnswered() {
        CHECK.states("1 the empty one", new WhatToRead(), 0);
        CHECK.same("1 ask()", new WhatToRead().ask(), 1);
        CHECK.same("1 question()", new WhatToRead().question(), -1);
        CHECK.same("1 worst()", new WhatToRead().worst(), 0);
        CHECK.same("1 settle()", new WhatToRead().settle(), 0);
        CHECK.same("1 answer(0, false)", new WhatToRead().answer(0, false), -1);
        WhatToRead x = Made.plain(12);
        for (int topic = 0; topic < 12; topic++) {
            CHECK.same("1 not answered: " + topic, x.answer(topic, true), 2048 >> topic);
        }
    }

    private static void newObjectsShareNothing() {
        String before = Made.told(new WhatToRead());
        Made.told(Made.rich());
        Made.told(Made.full());
        CHECK.same("1 new behind others", Made.told(new WhatToRead()).equals(before), true);
    }

    // Promise 2: "A TOPIC that IMPLIES some that there are: its number."
    private static void topicItsNumber() {
        WhatToRead x = new WhatToRead();
        for (int i = 0; i < 12; i++) {
            CHECK.same("2 implies all that there are", x.topic(i % 10, (1 << i) - 1), i);
            CHECK.same("2 topics", x.count(0), i + 1);
        }
        CHECK.same("2 the last with all", x.with(1 << 11), 4095);
        CHECK.same("2 refused ones take no number", new WhatToRead().topic(10, 0) + Made.plain(3).topic(0, 0), -1 + 3);
    }

    // Promise 2: "Refused: others"
    private static void topicRefusedOthers() {
        CHECK.refused("2 implies itself", () -> Made.plain(3), x -> x.topic(1, 8));
        CHECK.refused("2 implies one behind", () -> Made.plain(3), x -> x.topic(1, 16));
        CHECK.refused("2 implies itself and another", () -> Made.plain(3), x -> x.topic(1, 9));
        CHECK.refused("2 the first implies itself", () -> new WhatToRead(), x -> x.topic(1, 1));
        for (int bits : NO_BITS_OF_FIVE) {
            CHECK.refused("2 implies " + bits, Made::rich, x -> x.topic(1, bits));
        }
    }

    // Promise 2: "another WORTH"
    private static void topicRefusedAnotherWorth() {
        for (int worth : new int[] {Integer.MIN_VALUE, -1, 10, 256, Integer.MAX_VALUE}) {
            CHECK.refused("2 worth " + worth, Made::rich, x -> x.topic(worth, 0));
        }
    }

    // Promise 2: "12"
    private static void topicRefusedTheThirteenth() {
        CHECK.same("2 the twelfth", Made.chain(11).topic(0, 0), 11);
        CHECK.refused("2 a thirteenth", () -> Made.chain(12), x -> x.topic(0, 0));
        CHECK.refused("2 a thirteenth that implies the last", () -> Made.chain(12), x -> x.topic(9, 1 << 11));
        CHECK.refused("2 a thirteenth on a full shelf", Made::full, x -> x.topic(1, 0));
    }

    // Promise 3: "A PIECE: its number."
    private static void pieceItsNumber() {
        WhatToRead x = Made.plain(12);
        CHECK.same("3 the least", x.piece(0, 0, 1, 0, 1), 0);
        CHECK.same("3 the most", x.piece(4095, 4095, 4095, 4095, 400), 1);
        CHECK.same("3 a refused one", x.piece(0, 0, 0, 0, 1), -1);
        CHECK.same("3 the one behind it", x.piece(0, 0, 2048, 2048, 1), 2);
        CHECK.same("3 pieces", x.count(1), 3);
    }

    // Promise 3: "Refused: TOPICS that there are not"
    private static void pieceRefusedTopicsThatThereAreNot() {
        for (int bits : NO_BITS_OF_FIVE) {
            CHECK.refused("3 needs " + bits, Made::rich, x -> x.piece(bits, 0, 1, 0, 1));
            CHECK.refused("3 either " + bits, Made::rich, x -> x.piece(0, bits, 1, 0, 1));
            CHECK.refused("3 gives " + bits, Made::rich, x -> x.piece(0, 0, bits, 0, 1));
            CHECK.refused("3 gives and skim " + bits, Made::rich, x -> x.piece(0, 0, bits, bits, 1));
            CHECK.refused("3 skim " + bits, Made::rich, x -> x.piece(0, 0, 31, bits, 1));
        }
        CHECK.refused("3 there are none", () -> new WhatToRead(), x -> x.piece(0, 0, 1, 0, 1));
        CHECK.same("3 all that there are", Made.rich().piece(31, 31, 31, 31, 1), 5);
    }

    // Promise 3: "SKIM not of GIVES"
    private static void pieceRefusedSkimNotOfGives() {
        CHECK.refused("3 another", Made::rich, x -> x.piece(0, 0, 1, 2, 1));
        CHECK.refused("3 one more", Made::rich, x -> x.piece(0, 0, 5, 7, 1));
        CHECK.refused("3 one that what it gives implies", Made::rich, x -> x.piece(0, 0, 4, 2, 1));
        CHECK.same("3 all of it", Made.rich().piece(0, 0, 5, 5, 1), 5);
        CHECK.same("3 none of it", Made.rich().piece(0, 0, 5, 0, 1), 5);
    }

    // Promise 3: "no GIVES"
    private static void pieceRefusedNoGives() {
        CHECK.refused("3 gives nothing", Made::rich, x -> x.piece(0, 0, 0, 0, 1));
        CHECK.refused("3 gives nothing, needs all", Made::rich, x -> x.piece(31, 31, 0, 0, 400));
    }

    // Promise 3: "PAGES"
    private static void pieceRefusedPages() {
        for (int pages : new int[] {Integer.MIN_VALUE, -400, -1, 0, 401, 1 << 16, Integer.MAX_VALUE}) {
            CHECK.refused("3 pages " + pages, Made::rich, x -> x.piece(0, 0, 1, 0, pages));
        }
    }

    // Promise 3: "14"
    private static void pieceRefusedTheFifteenth() {
        CHECK.refused("3 a fifteenth", Made::full, x -> x.piece(0, 0, 1, 0, 1));
        WhatToRead x = Made.full();
        x.drop();
        CHECK.same("3 a fourteenth again", x.piece(0, 0, 2, 0, 400), 13);
        CHECK.same("3 the new one", x.minutes(26), 800);
        CHECK.same("3 no fifteenth again", x.piece(0, 0, 1, 0, 1), -1);
    }

    // Promise 4: "The last PIECE is gone: how many there are"
    private static void dropTheLastIsGone() {
        WhatToRead x = Made.full();
        for (int left = 13; left >= 0; left--) {
            CHECK.same("4 left", x.drop(), left);
            CHECK.same("4 pieces", x.count(1), left);
            CHECK.same("4 gone", x.minutes(2 * left), -1);
            CHECK.same("4 the one ahead stays", x.minutes(2 * left - 2), left == 0 ? -1 : 2 * left);
        }
    }

    // Promise 4: "NONE without one"
    private static void dropNoneWithoutOne() {
        CHECK.refused("4 never one", () -> Made.chain(3), WhatToRead::drop);
        WhatToRead x = Made.plain(1);
        x.piece(0, 0, 1, 0, 1);
        CHECK.same("4 the last", x.drop(), 0);
        CHECK.same("4 none left", x.drop(), -1);
        CHECK.same("4 none left still", x.drop(), -1);
        CHECK.same("4 pieces", x.count(1), 0);
        CHECK.same("4 the first number again", x.piece(0, 0, 1, 0, 1), 0);
    }

    // Promise 5: "PACE becomes v: what it was."
    private static void paceWhatItWas() {
        WhatToRead x = new WhatToRead();
        int was = 2;
        for (int v : new int[] {1, 10, 1, 1, 10, 10, 2}) {
            CHECK.same("5 pace(" + v + ")", x.pace(v), was);
            CHECK.same("5 now", x.count(3), v);
            was = v;
        }
    }

    // Promise 5: "Refused: others."
    private static void paceRefusedOthers() {
        for (int v : new int[] {Integer.MIN_VALUE, -1, 0, 11, 258, Integer.MAX_VALUE}) {
            CHECK.refused("5 pace(" + v + ")", Made::rich, x -> x.pace(v));
        }
    }

    // Promise 6: "KNOWN becomes bits, with what they IMPLY: these."
    private static void knowWithWhatTheyImply() {
        WhatToRead x = Made.chain(12);
        CHECK.same("6 the last", x.know(2048), 4095);
        CHECK.same("6 known", x.count(2), 4095);
        CHECK.same("6 nothing", x.know(0), 0);
        CHECK.same("6 nothing is known", x.count(2), 0);
        CHECK.same("6 all", x.know(4095), 4095);
        CHECK.same("6 not added to what was", x.know(1), 1);
        CHECK.same("6 without topics", new WhatToRead().know(0), 0);
    }

    // Promise 6: "Refused: others."
    private static void knowRefusedOthers() {
        for (int bits : NO_BITS_OF_FIVE) {
            CHECK.refused("6 know(" + bits + ")", Made::rich, x -> x.know(bits));
        }
        CHECK.refused("6 without topics", () -> new WhatToRead(), x -> x.know(1));
        CHECK.refused("6 a thirteenth", Made::full, x -> x.know(4096));
    }

    // Promise 7: "What 0: TOPICS, 1: PIECES, 2: KNOWN, 3: PACE, 4: WORTH of KNOWN in all, 5: STEPS of the latest row"
    private static void countOfEach() {
        WhatToRead x = new WhatToRead();
        for (int i = 0; i < 12; i++) {
            x.topic(9, 0);
            x.piece(i == 0 ? 0 : 1 << i - 1, 0, 1 << i, 0, 1);
        }
        x.piece(0, 0, 1, 0, 1);
        x.piece(0, 0, 1, 0, 1);
        x.pace(10);
        CHECK.same("7 no step yet", x.count(5), 0);
        CHECK.same("7 a way", x.way(2048), 120);
        CHECK.same("7 steps of way()", x.count(5), 12);
        CHECK.same("7 most", x.most(29), 18);
        CHECK.same("7 steps of most()", x.count(5), 2);
        CHECK.same("7 worth of nothing known", x.count(4), 0);
        x.know(4095);
        int[] most = {12, 14, 4095, 10, 108, 2};
        for (int what = 0; what < most.length; what++) {
            CHECK.same("7 at the most: " + what, x.count(what), most[what]);
        }
    }

    // Promise 7: "NONE for another what."
    private static void countNoneForAnotherWhat() {
        for (int what : new int[] {Integer.MIN_VALUE, -1, 6, 256, 1 << 30, Integer.MAX_VALUE}) {
            CHECK.refused("7 count(" + what + ")", Made::rich, x -> x.count(what));
        }
    }

    // Promise 8: "Bits with all that they IMPLY."
    private static void withAllThatTheyImply() {
        CHECK.same("8 nothing", Made.chain(12).with(0), 0);
        CHECK.same("8 nothing, without topics", new WhatToRead().with(0), 0);
        CHECK.same("8 all", Made.chain(12).with(4095), 4095);
        CHECK.same("8 the last of a chain", Made.chain(12).with(2048), 4095);
        CHECK.same("8 the last of none", Made.plain(12).with(2048), 2048);
        WhatToRead x = Made.rich();
        CHECK.same("8 with", x.with(4), 7);
        CHECK.same("8 is not known by that", x.count(2), 1);
    }

    // Promise 8: "NONE: others."
    private static void withNoneForOthers() {
        for (int bits : NO_BITS_OF_FIVE) {
            CHECK.refused("8 with(" + bits + ")", Made::rich, x -> x.with(bits));
        }
        CHECK.refused("8 without topics", () -> new WhatToRead(), x -> x.with(1));
        CHECK.refused("8 a thirteenth", Made::full, x -> x.with(4096));
    }

    // Promise 9: "Minutes of a STEP."
    private static void minutesOfAStep() {
        WhatToRead x = Made.full();
        x.drop();
        x.piece(0, 0, 1, 0, 400);
        CHECK.same("9 the first", x.minutes(0), 2);
        CHECK.same("9 the first, skimmed", x.minutes(1), 1);
        CHECK.same("9 the last", x.minutes(26), 800);
        CHECK.same("9 the last, skimmed for nothing", x.minutes(27), 267);
        x.pace(10);
        CHECK.same("9 the most minutes", x.minutes(26), 4000);
        x.pace(1);
        CHECK.same("9 the fewest minutes", x.minutes(0), 1);
        CHECK.same("9 the fewest minutes, skimmed", x.minutes(1), 1);
    }

    // Promise 9: "NONE: no such PIECE."
    private static void minutesNoneForNoSuchPiece() {
        for (int step : new int[] {Integer.MIN_VALUE, -2, -1, 10, 11, 1 << 30, Integer.MAX_VALUE}) {
            CHECK.refused("9 minutes(" + step + ")", Made::rich, x -> x.minutes(step));
        }
        CHECK.refused("9 behind the fourteenth", Made::full, x -> x.minutes(28));
        WhatToRead x = Made.rich();
        x.drop();
        CHECK.same("9 gone", x.minutes(8), -1);
        CHECK.same("9 gone, skimmed", x.minutes(9), -1);
    }

    // Promise 10: "Whether a STEP can be done now: 1; 0 not"
    private static void canNowOneElseNought() {
        WhatToRead x = Made.rich();
        int[] known = {0, 1, 8, 16, 31};
        int[][] due = {{1, 0, 0, 1, 0}, {1, 1, 0, 1, 0}, {1, 0, 1, 1, 0}, {1, 0, 0, 1, 1}, {1, 1, 1, 1, 1}};
        for (int i = 0; i < known.length; i++) {
            x.know(known[i]);
            for (int step = 0; step < 10; step++) {
                CHECK.same("10 can(" + step + ") behind " + known[i], x.can(step), due[i][step / 2]);
            }
        }
    }

    // Promise 10: "NONE: no such PIECE."
    private static void canNoneForNoSuchPiece() {
        for (int step : new int[] {Integer.MIN_VALUE, -2, -1, 10, 11, 1 << 30, Integer.MAX_VALUE}) {
            CHECK.refused("10 can(" + step + ")", Made::rich, x -> x.can(step));
        }
        CHECK.refused("10 behind the fourteenth", Made::full, x -> x.can(28));
        WhatToRead x = Made.rich();
        x.drop();
        CHECK.same("10 gone, not just 0", x.can(8), -1);
    }

    // Promise 11: "A STEP is done: KNOWN then."
    private static void doneKnownThen() {
        WhatToRead x = Made.rich();
        x.know(0);
        CHECK.same("11 the first, skimmed", x.done(1), 1);
        CHECK.same("11 skimmed for nothing", x.done(3), 1);
        CHECK.same("11 read", x.done(2), 3);
        CHECK.same("11 with one of either", x.done(4), 7);
        CHECK.same("11 nothing new", x.done(0), 7);
        CHECK.same("11 known", x.count(2), 7);
        CHECK.same("11 the latest row stays", x.count(5), 1);
        x.know(16);
        CHECK.same("11 the last", x.done(8), 17);
    }

    // Promise 11: "Refused: no such PIECE"
    private static void doneRefusedNoSuchPiece() {
        for (int step : new int[] {Integer.MIN_VALUE, -2, -1, 10, 11, 1 << 30, Integer.MAX_VALUE}) {
            CHECK.refused("11 done(" + step + ")", Made::rich, x -> x.done(step));
        }
        CHECK.refused("11 behind the fourteenth", Made::full, x -> x.done(28));
    }

    // Promise 11: "it can't be done"
    private static void doneRefusedWhatCannotBeDone() {
        CHECK.refused("11 lacks what it needs", Made::rich, x -> x.done(8));
        CHECK.refused("11 lacks what it needs, skimmed", Made::rich, x -> x.done(9));
        CHECK.refused("11 lacks both of either", Made::rich, x -> x.done(4));
        CHECK.refused("11 lacks both of either, skimmed", Made::rich, x -> x.done(5));
    }
}
