/** Each sentence of the document's "Terms" that names an edge, in its order; a method each. */
public final class EdgesOfTermsTest {
    private static final Check CHECK = new Check("EdgesOfTermsTest");

    public static void main(String[] args) {
        atMostTwelveTopics();
        worthFrom0To9();
        impliesAndSoOn();
        knownAtFirstNone();
        knownWithWhatItImplies();
        atMostFourteenPieces();
        needsAllOfThem();
        eitherOneAtLeast();
        givesAndSkimOfIt();
        pagesFrom1To400();
        paceFrom1To10();
        readTakesPagesTimesPace();
        skimmedTakesAThirdRoundedUp();
        metByWhatIsKnownThen();
        givenBringsWhatItImplies();
        stepIsTwiceItsNumber();
        everyStepCanBeDoneBehindThoseAhead();
        everyStepGivesSomethingNew();
        noneGoesOnBehindTheWish();
        bestIsFewestMinutes();
        ofEqualOnesFewestSteps();
        thenTheFirstRow();
        weeksFrom0To51();
        weekMinutesFrom0To3000();
        weekMinutesAtFirst300();
        laidOneBehindAnother();
        asManyMinutesLeftAsItTakes();
        stateHasWhatItImplies();
        stateAgreesWithAllAnswers();
        questionByTheFewest();
        questionTheLeastOfEqualOnes();
        questionThatSomeHaveAndSomeHaveNot();
        refusedCallsChangeNothing();
        refusedOnAFullObjectChangeNothing();
        noneAheadOfOtherAnswers();
        the512thCall();
        CHECK.end();
    }

    // "TOPICS 0 .. (at most 12)"
    private static void atMostTwelveTopics() {
        WhatToRead x = new WhatToRead();
        for (int i = 0; i < 12; i++) {
            CHECK.same("topic " + i, x.topic(1, 0), i);
        }
        CHECK.same("the twelfth is one", x.with(1 << 11), 1 << 11);
        CHECK.refused("a thirteenth", () -> Made.plain(12), y -> y.topic(1, 0));
        CHECK.same("twelve are known", x.know(4095), 4095);
        CHECK.same("no thirteenth is known", x.know(4096), -1);
    }

    // "each of a WORTH 0 .. 9"
    private static void worthFrom0To9() {
        WhatToRead x = new WhatToRead();
        CHECK.same("worth 0", x.topic(0, 0), 0);
        CHECK.same("worth 9", x.topic(9, 0), 1);
        x.know(1);
        CHECK.same("worth 0 is none", x.count(4), 0);
        x.know(3);
        CHECK.same("worth 9 in all", x.count(4), 9);
        CHECK.refused("worth -1", Made::rich, y -> y.topic(-1, 0));
        CHECK.refused("worth 10", Made::rich, y -> y.topic(10, 0));
    }

    // "each IMPLIES some others (bits): who knows it knows those, and what they IMPLY, and so on"
    private static void impliesAndSoOn() {
        WhatToRead x = Made.chain(12);
        for (int topic = 0; topic < 12; topic++) {
            CHECK.same("all down from " + topic, x.with(1 << topic), (2 << topic) - 1);
        }
        CHECK.same("eleven times on", x.know(1 << 11), 4095);
        CHECK.same("implies nothing", Made.plain(12).with(1 << 11), 1 << 11);
        WhatToRead y = Made.plain(11);
        CHECK.same("implies all others", y.topic(0, 2047), 11);
        CHECK.same("who knows it knows all", y.with(1 << 11), 4095);
    }

    // "KNOWN: a set of TOPICS, as bits (at first none)"
    private static void knownAtFirstNone() {
        CHECK.same("no topics, none known", new WhatToRead().count(2), 0);
        CHECK.same("twelve topics, none known", Made.plain(12).count(2), 0);
    }

    // "with each also what it IMPLIES"
    private static void knownWithWhatItImplies() {
        WhatToRead x = Made.chain(3);
        CHECK.same("by know()", x.know(4), 7);
        CHECK.same("known by know()", x.count(2), 7);
        x.know(0);
        x.piece(0, 0, 6, 2, 1);
        x.done(1);
        CHECK.same("known by done()", x.count(2), 3);
        x.answer(2, true);
        x.settle();
        CHECK.same("known by settle()", x.count(2), 7);
    }

    // "PIECES 0 .. (at most 14)"
    private static void atMostFourteenPieces() {
        WhatToRead x = Made.plain(1);
        for (int i = 0; i < 14; i++) {
            CHECK.same("piece " + i, x.piece(0, 0, 1, 0, i + 1), i);
        }
        CHECK.same("the fourteenth is one", x.minutes(26), 28);
        CHECK.refused("a fifteenth", Made::full, y -> y.piece(0, 0, 1, 0, 1));
    }

    // "NEEDS (bits, all of them)"
    private static void needsAllOfThem() {
        WhatToRead x = Made.plain(12);
        x.piece(4095, 0, 1, 1, 1);
        x.piece(0, 0, 1, 1, 1);
        CHECK.same("none of them", x.can(0), 0);
        CHECK.same("needs nothing", x.can(2), 1);
        for (int topic = 0; topic < 12; topic++) {
            x.know(4095 - (1 << topic));
            CHECK.same("all but " + topic, x.can(0), 0);
            CHECK.same("all but " + topic + ", skimmed", x.can(1), 0);
        }
        x.know(4095);
        CHECK.same("all of them", x.can(0), 1);
        CHECK.same("all of them, skimmed", x.can(1), 1);
    }

    // "EITHER (bits, one of them at least; 0: nothing)"
    private static void eitherOneAtLeast() {
        WhatToRead x = Made.plain(12);
        x.piece(0, 4094, 1, 1, 1);
        x.piece(0, 0, 1, 1, 1);
        CHECK.same("none of them", x.can(0), 0);
        CHECK.same("0: nothing", x.can(2), 1);
        CHECK.same("0: nothing, skimmed", x.can(3), 1);
        x.know(1);
        CHECK.same("another is none of them", x.can(0), 0);
        CHECK.same("another is none of them, skimmed", x.can(1), 0);
        for (int topic = 1; topic < 12; topic++) {
            x.know(1 << topic);
            CHECK.same("one of them: " + topic, x.can(0), 1);
            CHECK.same("one of them, skimmed: " + topic, x.can(1), 1);
        }
        x.know(4095);
        CHECK.same("all of them", x.can(0), 1);
    }

    // "GIVES (bits), SKIM (bits, of its GIVES)"
    private static void givesAndSkimOfIt() {
        WhatToRead x = Made.plain(12);
        CHECK.same("gives all, skim all of it", x.piece(0, 0, 4095, 4095, 1), 0);
        CHECK.same("gives one, skim nothing", x.piece(0, 0, 2048, 0, 1), 1);
        CHECK.same("skim of nothing gives nothing", x.done(3), 0);
        CHECK.same("skim of all gives all", x.done(1), 4095);
        CHECK.refused("gives nothing", Made::rich, y -> y.piece(0, 0, 0, 0, 1));
        CHECK.refused("one more than gives", Made::rich, y -> y.piece(0, 0, 7, 15, 1));
        CHECK.refused("another than gives", Made::rich, y -> y.piece(0, 0, 8, 4, 1));
    }

    // "PAGES 1 .. 400"
    private static void pagesFrom1To400() {
        WhatToRead x = Made.plain(1);
        CHECK.same("1 page", x.piece(0, 0, 1, 0, 1), 0);
        CHECK.same("400 pages", x.piece(0, 0, 1, 0, 400), 1);
        CHECK.same("of 1 page", x.minutes(0), 2);
        CHECK.same("of 400 pages", x.minutes(2), 800);
        CHECK.refused("0 pages", Made::rich, y -> y.piece(0, 0, 1, 0, 0));
        CHECK.refused("-1 pages", Made::rich, y -> y.piece(0, 0, 1, 0, -1));
        CHECK.refused("401 pages", Made::rich, y -> y.piece(0, 0, 1, 0, 401));
    }

    // "PACE: minutes for a page, 1 .. 10 (at first 2)"
    private static void paceFrom1To10() {
        WhatToRead x = Made.plain(1);
        x.piece(0, 0, 1, 0, 7);
        CHECK.same("at first", x.count(3), 2);
        CHECK.same("at first, for seven pages", x.minutes(0), 14);
        CHECK.same("pace 1", x.pace(1), 2);
        CHECK.same("pace 1, for seven pages", x.minutes(0), 7);
        CHECK.same("pace 10", x.pace(10), 1);
        CHECK.same("pace 10, for seven pages", x.minutes(0), 70);
        CHECK.refused("pace 0", Made::rich, y -> y.pace(0));
        CHECK.refused("pace -1", Made::rich, y -> y.pace(-1));
        CHECK.refused("pace 11", Made::rich, y -> y.pace(11));
    }

    // "READ it takes PAGES times PACE minutes and gives GIVES"
    private static void readTakesPagesTimesPace() {
        WhatToRead x = Made.plain(12);
        x.piece(0, 0, 1, 0, 1);
        x.piece(0, 0, 4095, 1, 400);
        x.pace(1);
        CHECK.same("the least", x.minutes(0), 1);
        x.pace(10);
        CHECK.same("the most", x.minutes(2), 4000);
        CHECK.same("gives one", x.done(0), 1);
        CHECK.same("gives all", x.done(2), 4095);
    }

    // "SKIMMED a third of that, rounded up, and gives SKIM"
    private static void skimmedTakesAThirdRoundedUp() {
        WhatToRead x = Made.plain(12);
        x.pace(1);
        int[] thirds = {1, 1, 1, 2, 2, 2, 3};
        for (int i = 0; i < thirds.length; i++) {
            x.piece(0, 0, 4095, 4094, i + 1);
            CHECK.same("a third of " + (i + 1), x.minutes(2 * i + 1), thirds[i]);
        }
        x.piece(0, 0, 4095, 0, 400);
        CHECK.same("a third of 400", x.minutes(15), 134);
        x.pace(10);
        CHECK.same("a third of 10, not ten times one", x.minutes(1), 4);
        CHECK.same("a third of 4000", x.minutes(15), 1334);
        CHECK.same("gives nothing", x.done(15), 0);
        CHECK.same("gives all but one", x.done(1), 4094);
    }

    // "It can be READ or SKIMMED, if NEEDS and EITHER are met by what is known then."
    private static void metByWhatIsKnownThen() {
        WhatToRead x = Made.plain(4);
        x.piece(1, 6, 8, 8, 1);
        int[] known = {0, 1, 2, 4, 6, 8, 3, 5, 7, 15};
        int[] due = {0, 0, 0, 0, 0, 0, 1, 1, 1, 1};
        for (int i = 0; i < known.length; i++) {
            x.know(known[i]);
            CHECK.same("read behind " + known[i], x.can(0), due[i]);
            CHECK.same("skimmed behind " + known[i], x.can(1), due[i]);
        }
    }

    // "(What is given brings what it IMPLIES.)"
    private static void givenBringsWhatItImplies() {
        WhatToRead x = Made.chain(12);
        x.piece(0, 0, 1 << 11, 1 << 11, 4);
        x.piece(0, 0, 3072, 1 << 10, 1);
        CHECK.same("the way by it", x.way(1), 1);
        CHECK.row("the way by it", x, 3);
        CHECK.same("the most by it", x.most(2), 12);
        CHECK.row("the most by it", x, 2);
        CHECK.same("reached by it", x.reach(), 4095);
        CHECK.same("skimmed", x.done(3), 2047);
        CHECK.same("read", x.done(2), 4095);
    }

    // "A STEP: a PIECE READ (twice its number) or SKIMMED (twice and one)."
    private static void stepIsTwiceItsNumber() {
        WhatToRead x = Made.full();
        x.pace(3);
        for (int piece = 0; piece < 14; piece++) {
            CHECK.same("read " + piece, x.minutes(2 * piece), 3 * (piece + 1));
            CHECK.same("skimmed " + piece, x.minutes(2 * piece + 1), piece + 1);
        }
        for (int step : new int[] {Integer.MIN_VALUE, -2, -1, 28, 29, Integer.MAX_VALUE}) {
            CHECK.same("minutes(" + step + ")", x.minutes(step), -1);
            CHECK.same("can(" + step + ")", x.can(step), -1);
            CHECK.refused("done(" + step + ")", Made::full, y -> y.done(step));
        }
    }

    // "A WAY to a WISH (bits): a row of STEPS, each of which can be done behind those ahead of it"
    private static void everyStepCanBeDoneBehindThoseAhead() {
        WhatToRead x = Made.plain(3);
        x.piece(2, 0, 4, 0, 1);
        x.piece(0, 1, 2, 0, 1);
        x.piece(0, 0, 1, 0, 1);
        CHECK.same("the last piece comes first", x.way(4), 6);
        CHECK.row("the last piece comes first", x, 4, 2, 0);
        x.drop();
        CHECK.same("none without it", x.way(4), -1);
        x.piece(4, 0, 1, 0, 1);
        CHECK.same("none round in a ring", x.way(4), -1);
        x.know(2);
        CHECK.same("into the ring", x.way(1), 4);
        CHECK.row("into the ring", x, 0, 4);
    }

    // "and gives something new, from KNOWN"
    private static void everyStepGivesSomethingNew() {
        WhatToRead x = Made.plain(2);
        x.piece(0, 0, 1, 1, 1);
        x.piece(0, 0, 3, 0, 1);
        x.know(1);
        CHECK.same("what is known is not read again", x.way(3), 2);
        CHECK.row("what is known is not read again", x, 2);
        x.know(3);
        CHECK.same("nothing is new", x.most(10000), 2);
        CHECK.row("nothing is new", x);

        WhatToRead y = Made.plain(12);
        for (int topic = 0; topic < 12; topic++) {
            y.piece(0, 0, 1 << topic, 1 << topic, 1);
        }
        y.piece(4095, 0, 1, 1, 1);
        CHECK.same("a new topic in each of twelve steps", y.way(4095), 12);
        CHECK.row("a new topic in each of twelve steps", y, 1, 3, 5, 7, 9, 11, 13, 15, 17, 19, 21, 23);
    }

    // "at the end of which all of the WISH is known; none goes on behind that"
    private static void noneGoesOnBehindTheWish() {
        WhatToRead x = Made.plain(3);
        x.piece(0, 0, 1, 1, 1);
        x.piece(0, 0, 2, 2, 1);
        x.piece(0, 0, 4, 4, 1);
        CHECK.same("no wish", x.way(0), 0);
        CHECK.row("no wish", x);
        CHECK.same("all of a wish", x.way(5), 2);
        CHECK.row("all of a wish", x, 1, 5);
        CHECK.same("everything", x.way(7), 3);
        x.know(2);
        CHECK.same("a wish known", x.way(2), 0);
        CHECK.row("a wish known", x);
        CHECK.same("the rest of a wish", x.way(3), 1);
        CHECK.row("the rest of a wish", x, 1);
    }

    // "BEST: the fewest minutes"
    private static void bestIsFewestMinutes() {
        WhatToRead x = Made.plain(3);
        x.pace(1);
        x.piece(0, 0, 7, 0, 10);
        x.piece(0, 0, 4, 0, 3);
        x.piece(0, 0, 2, 0, 3);
        x.piece(0, 0, 1, 0, 3);
        CHECK.same("one minute fewer, in more steps", x.way(7), 9);
        CHECK.row("one minute fewer, in more steps", x, 2, 4, 6);
        x.drop();
        x.piece(0, 0, 1, 0, 5);
        CHECK.same("one minute more", x.way(7), 10);
        CHECK.row("one minute more", x, 0);
    }

    // "of equal ones the fewest STEPS"
    private static void ofEqualOnesFewestSteps() {
        WhatToRead x = Made.plain(3);
        x.pace(1);
        x.piece(0, 0, 1, 0, 3);
        x.piece(0, 0, 2, 0, 3);
        x.piece(0, 0, 4, 0, 3);
        CHECK.same("three steps", x.way(7), 9);
        CHECK.row("three steps", x, 0, 2, 4);
        x.piece(0, 0, 6, 0, 6);
        CHECK.same("two steps, though the first row is another", x.way(7), 9);
        CHECK.row("two steps, though the first row is another", x, 0, 6);
        x.piece(0, 0, 7, 0, 9);
        CHECK.same("one step", x.way(7), 9);
        CHECK.row("one step", x, 8);
    }

    // "then the first row (the less STEP where they are not alike first)"
    private static void thenTheFirstRow() {
        WhatToRead x = Made.plain(3);
        x.pace(1);
        x.piece(0, 0, 4, 0, 3);
        x.piece(0, 0, 2, 0, 3);
        x.piece(0, 0, 2, 2, 9);
        CHECK.same("of two orders", x.way(6), 6);
        CHECK.row("of two orders", x, 0, 2);
        CHECK.same("read ahead of another skimmed", x.way(2), 3);
        CHECK.row("read ahead of another skimmed", x, 2);

        WhatToRead y = Made.plain(4);
        y.piece(1, 0, 8, 0, 1);
        y.piece(2, 0, 8, 0, 1);
        y.piece(0, 0, 2, 0, 1);
        y.piece(0, 0, 1, 0, 1);
        CHECK.same("the first step tells, not the last", y.way(8), 4);
        CHECK.row("the first step tells, not the last", y, 4, 2);
        CHECK.same("other topics behind them", y.most(2), 1);
        CHECK.row("other topics behind them", y, 4);
    }

    /** A row of one step of so many minutes. */
    private static WhatToRead oneStepOf(int pages, int pace) {
        WhatToRead x = Made.plain(1);
        x.piece(0, 0, 1, 0, pages);
        x.pace(pace);
        x.way(1);
        return x;
    }

    // "WEEKS 0 .. 51"
    private static void weeksFrom0To51() {
        WhatToRead x = oneStepOf(150, 2);
        CHECK.same("the first week", x.lay(0), 0);
        CHECK.same("the last week", x.lay(51), 51);
        CHECK.same("week(0)", x.week(0, 299), true);
        CHECK.same("behind the first", x.lay(0), 1);
        CHECK.same("week(51)", x.week(51, 299), true);
        CHECK.same("none behind the last, nor the first again", x.lay(51), -2);
        CHECK.same("the last but one", x.lay(50), 50);
        CHECK.refused("week(-1)", Made::rich, y -> y.week(-1, 60) ? 1 : -1);
        CHECK.refused("week(52)", Made::rich, y -> y.week(52, 60) ? 1 : -1);
        CHECK.refused("lay(-1)", Made::rich, y -> y.lay(-1));
        CHECK.refused("lay(52)", Made::rich, y -> y.lay(52));
    }

    // "each with MINUTES 0 .. 3000"
    private static void weekMinutesFrom0To3000() {
        WhatToRead x = oneStepOf(375, 8);
        CHECK.same("3000 minutes", x.week(51, 3000), true);
        CHECK.same("a step of 3000", x.lay(51), 51);
        WhatToRead y = oneStepOf(1, 1);
        CHECK.same("0 minutes", y.week(51, 0), true);
        CHECK.same("a step of 1 in 0", y.lay(51), -2);
        CHECK.same("1 minute", y.week(51, 1), true);
        CHECK.same("a step of 1 in 1", y.lay(51), 51);
        CHECK.refused("-1 minutes", Made::rich, z -> z.week(2, -1) ? 1 : -1);
        CHECK.refused("3001 minutes", Made::rich, z -> z.week(0, 3001) ? 1 : -1);
    }

    // "(at first 300)"
    private static void weekMinutesAtFirst300() {
        WhatToRead just = oneStepOf(300, 1);
        WhatToRead over = oneStepOf(301, 1);
        for (int week = 0; week < 52; week++) {
            CHECK.same("300 in week " + week, just.lay(week), week);
            CHECK.same("301 from week " + week, over.lay(week), -2);
        }
    }

    // "A row of STEPS is LAID: each, one behind another, in the first WEEK, not ahead of that of the one ahead"
    private static void laidOneBehindAnother() {
        WhatToRead x = Made.chain(4);
        int[] pages = {1, 8, 1, 1};
        for (int i = 0; i < 4; i++) {
            x.piece(i == 0 ? 0 : 1 << i - 1, 0, 1 << i, 0, pages[i]);
        }
        x.pace(10);
        x.way(8);
        CHECK.row("the row", x, 0, 2, 4, 6);
        x.week(0, 70);
        x.week(1, 79);
        x.week(2, 90);
        CHECK.same("never back to the first week", x.lay(0), 3);
        CHECK.laid("never back to the first week", x, 0, 2, 2, 3);
        x.week(51, 100);
        CHECK.same("all in the last", x.lay(51), -2);
        x.week(51, 110);
        CHECK.same("all in the last", x.lay(51), 51);
        CHECK.laid("all in the last", x, 51, 51, 51, 51);
    }

    // "that has as many minutes left as it takes"
    private static void asManyMinutesLeftAsItTakes() {
        WhatToRead x = Made.chain(2);
        x.piece(0, 0, 1, 0, 30);
        x.piece(1, 0, 2, 0, 20);
        x.way(2);
        int[][] due = {{100, 0, 0}, {99, 0, 1}, {60, 0, 1}, {59, 1, 1}, {0, 1, 1}};
        for (int[] line : due) {
            x.week(0, line[0]);
            CHECK.same("in " + line[0], x.lay(0), line[2]);
            CHECK.laid("in " + line[0], x, line[1], line[2]);
        }
    }

    // "A STATE: a set of TOPICS that has with each what it IMPLIES"
    private static void stateHasWhatItImplies() {
        CHECK.states("without topics", new WhatToRead(), 0);
        CHECK.states("a topic", Made.plain(1), 0, 1);
        CHECK.states("a chain", Made.chain(4), 0, 1, 3, 7, 15);
        CHECK.same("all of twelve", Made.plain(12).states(), 4096);
        CHECK.same("a chain of twelve", Made.chain(12).states(), 13);
        WhatToRead x = Made.plain(2);
        x.topic(0, 3);
        CHECK.states("two implied", x, 0, 1, 2, 3, 7);
    }

    // "and agrees with all answers"
    private static void stateAgreesWithAllAnswers() {
        WhatToRead x = Made.plain(12);
        for (int topic = 0; topic < 12; topic++) {
            CHECK.same("half are left", x.answer(topic, topic % 3 == 0), 2048 >> topic);
        }
        CHECK.states("all answered", x, 1 + 8 + 64 + 512);
        WhatToRead y = Made.chain(12);
        CHECK.same("all implied are known", y.answer(11, true), 1);
        CHECK.states("all implied are known", y, 4095);
        WhatToRead z = Made.chain(12);
        CHECK.same("none that imply are known", z.answer(0, false), 1);
        CHECK.states("none that imply are known", z, 0);
    }

    // "The next QUESTION: the TOPIC, not answered, by which the more of the STATES with it and of
    // those without it are the fewest"
    private static void questionByTheFewest() {
        WhatToRead x = Made.chain(5);
        CHECK.same("3 of 6", x.question(), 2);
        x.answer(2, false);
        CHECK.same("2 and 1 of 3, or 1 and 2", x.question(), 0);
        x.answer(0, true);
        CHECK.same("the last not settled", x.question(), 1);

        WhatToRead y = Made.plain(1);
        for (int i = 0; i < 4; i++) {
            y.topic(0, 1);
        }
        CHECK.same("8 of 17 have it, not 16", y.question(), 1);
        y.answer(1, false);
        CHECK.same("4 of 9 have it", y.question(), 2);
    }

    // "of equal ones the least TOPIC"
    private static void questionTheLeastOfEqualOnes() {
        WhatToRead x = Made.plain(12);
        for (int topic = 0; topic < 12; topic++) {
            CHECK.same("the least not answered", x.question(), topic);
            x.answer(topic, topic % 2 == 0);
        }
        CHECK.same("all are answered", x.question(), -1);
        WhatToRead y = Made.chain(2);
        CHECK.same("1 of 3 without the one, 1 of 3 with the other", y.question(), 0);
    }

    // "only one that some STATE has and some has not"
    private static void questionThatSomeHaveAndSomeHaveNot() {
        CHECK.same("without topics", new WhatToRead().question(), -1);
        WhatToRead x = Made.chain(3);
        x.topic(0, 0);
        x.answer(2, true);
        CHECK.same("all have those that it implies", x.question(), 3);
        WhatToRead y = Made.chain(3);
        y.topic(0, 0);
        y.answer(0, false);
        CHECK.same("none has those that imply it", y.question(), 3);
    }

    // "Refused calls answer NONE, or false, and change nothing."
    private static void refusedCallsChangeNothing() {
        CHECK.refused("topic: worth", Made::rich, x -> x.topic(10, 1));
        CHECK.refused("topic: implies", Made::rich, x -> x.topic(1, 32));
        CHECK.refused("piece: needs", Made::rich, x -> x.piece(32, 0, 1, 0, 1));
        CHECK.refused("piece: either", Made::rich, x -> x.piece(0, 32, 1, 0, 1));
        CHECK.refused("piece: gives", Made::rich, x -> x.piece(0, 0, 32, 0, 1));
        CHECK.refused("piece: skim", Made::rich, x -> x.piece(0, 0, 1, 32, 1));
        CHECK.refused("piece: pages", Made::rich, x -> x.piece(0, 0, 1, 0, 401));
        CHECK.refused("drop", () -> Made.chain(3), WhatToRead::drop);
        CHECK.refused("pace", Made::rich, x -> x.pace(11));
        CHECK.refused("know", Made::rich, x -> x.know(32));
        CHECK.refused("count", Made::rich, x -> x.count(6));
        CHECK.refused("with", Made::rich, x -> x.with(32));
        CHECK.refused("minutes", Made::rich, x -> x.minutes(10));
        CHECK.refused("can", Made::rich, x -> x.can(10));
        CHECK.refused("done: no such", Made::rich, x -> x.done(10));
        CHECK.refused("done: it can't be", Made::rich, x -> x.done(8));
        CHECK.refused("way: there is none", Made::rich, x -> x.way(16));
        CHECK.refused("way: other bits", Made::rich, x -> x.way(32));
        CHECK.refused("step", Made::rich, x -> x.step(1));
        CHECK.refused("most", Made::rich, x -> x.most(10001));
        CHECK.refused("shortens: piece", Made::rich, x -> x.shortens(5, 1));
        CHECK.refused("shortens: wish", Made::rich, x -> x.shortens(0, 32));
        CHECK.refused("shortens: no way", Made::rich, x -> x.shortens(0, 16));
        CHECK.refused("week: week", Made::rich, x -> x.week(52, 1) ? 1 : -1);
        CHECK.refused("week: minutes", Made::rich, x -> x.week(51, 3001) ? 1 : -1);
        CHECK.refused("lay", Made::rich, x -> x.lay(52));
        CHECK.refused("laid", Made::rich, x -> x.laid(2));
        CHECK.refused("answer: topic", Made::rich, x -> x.answer(5, true));
        CHECK.refused("answer: answered", Made::rich, x -> x.answer(1, false));
        CHECK.refused("answer: no state left", Made::rich, x -> x.answer(0, false));
        CHECK.refused("question", () -> new WhatToRead(), WhatToRead::question);
        CHECK.refused("worst", () -> Made.plain(7), WhatToRead::worst);
    }

    private static void refusedOnAFullObjectChangeNothing() {
        CHECK.refused("topic", Made::full, x -> x.topic(1, 0));
        CHECK.refused("piece", Made::full, x -> x.piece(0, 0, 1, 0, 1));
        CHECK.refused("know", Made::full, x -> x.know(4096));
        CHECK.refused("way", Made::full, x -> x.way(4096));
        CHECK.refused("answer", Made::full, x -> x.answer(12, true));
    }

    // "NONE is asked ahead of other answers below 0"
    private static void noneAheadOfOtherAnswers() {
        WhatToRead x = oneStepOf(400, 10);
        CHECK.same("it can't be laid", x.lay(0), -2);
        CHECK.same("no such week, though it can't be laid either", x.lay(52), -1);
        CHECK.same("no such week, though it can't be laid either", x.lay(-1), -1);
        CHECK.same("no way without it", x.shortens(0, 1), -2);
        CHECK.same("no such piece, without which there would be no way", x.shortens(1, 1), -1);
        CHECK.same("no such wish", x.shortens(0, 3), -1);
        x.drop();
        CHECK.same("its piece is gone", x.lay(0), -2);
        CHECK.same("no such week, though its piece is gone too", x.lay(52), -1);
        CHECK.same("gone itself", x.shortens(0, 1), -1);
    }

    // "An object is used for at most 512 calls after it has been made"
    private static void the512thCall() {
        WhatToRead x = Made.plain(12);
        for (int call = 12; call < 510; call += 2) {
            CHECK.same("call " + call, x.piece(0, 0, 4095, 0, 400), 0);
            CHECK.same("call " + (call + 1), x.drop(), 0);
        }
        CHECK.same("call 510", x.piece(0, 0, 4095, 4095, 400), 0);
        CHECK.same("call 511, the last", x.way(4095), 267);
    }
}
