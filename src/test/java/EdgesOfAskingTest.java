/** Each sentence of promises 21 to 27 that names an edge, in their order; a method each. */
public final class EdgesOfAskingTest {
    private static final Check CHECK = new Check("EdgesOfAskingTest");

    public static void main(String[] args) {
        answerHowManyAreLeft();
        answerRefusedNoSuchTopic();
        answerRefusedItWasAnswered();
        answerRefusedNoStateLeft();
        askNoAnswersAnyMore();
        statesHowMany();
        questionTheNext();
        questionNoneOneState();
        worstUntilThereIsOne();
        worstOfTheLongerSide();
        worstNoneMoreThan64();
        settleInCommon();
        stateAscending();
        stateNoneSuch();
        CHECK.end();
    }

    /** One topic, and some that imply it: two to their number, and one more. */
    private static WhatToRead comb(int teeth) {
        WhatToRead x = Made.plain(1);
        for (int i = 0; i < teeth; i++) {
            x.topic(0, 1);
        }
        return x;
    }

    // Promise 21: "It is answered whether one knows a TOPIC: how many STATES are left."
    private static void answerHowManyAreLeft() {
        WhatToRead x = Made.plain(12);
        CHECK.same("21 the first", x.answer(0, true), 2048);
        CHECK.same("21 the last", x.answer(11, false), 1024);
        CHECK.same("21 left", x.states(), 1024);
        CHECK.same("21 just one", Made.chain(12).answer(11, true), 1);
        CHECK.same("21 all but one", Made.chain(12).answer(11, false), 12);
        CHECK.same("21 the only topic", Made.plain(1).answer(0, true), 1);
        WhatToRead y = Made.chain(2);
        y.answer(1, true);
        CHECK.same("21 all are left", y.answer(0, true), 1);
        CHECK.same("21 known stays", y.count(2), 0);
    }

    // Promise 21: "Refused: no such TOPIC"
    private static void answerRefusedNoSuchTopic() {
        for (int topic : new int[] {Integer.MIN_VALUE, -32, -1, 5, 11, 12, 31, 32, 33, 64, Integer.MAX_VALUE}) {
            CHECK.refused("21 answer(" + topic + ", true)", Made::rich, x -> x.answer(topic, true));
            CHECK.refused("21 answer(" + topic + ", false)", Made::rich, x -> x.answer(topic, false));
        }
        CHECK.refused("21 without topics, true", () -> new WhatToRead(), x -> x.answer(0, true));
        CHECK.refused("21 without topics, false", () -> new WhatToRead(), x -> x.answer(0, false));
        CHECK.refused("21 a thirteenth", Made::full, x -> x.answer(12, false));
    }

    // Promise 21: "it was answered"
    private static void answerRefusedItWasAnswered() {
        CHECK.refused("21 the same again", Made::rich, x -> x.answer(1, true));
        CHECK.refused("21 another", Made::rich, x -> x.answer(1, false));
        WhatToRead x = Made.plain(12);
        for (int topic = 0; topic < 12; topic++) {
            x.answer(topic, false);
        }
        for (int topic = 0; topic < 12; topic++) {
            CHECK.same("21 all were, " + topic, x.answer(topic, false), -1);
        }
        WhatToRead y = Made.chain(2);
        y.answer(1, true);
        CHECK.same("21 settled is not answered", y.answer(0, true), 1);
        CHECK.same("21 now it was", y.answer(0, true), -1);
    }

    // Promise 21: "no STATE would be left"
    private static void answerRefusedNoStateLeft() {
        CHECK.refused("21 it is implied", Made::rich, x -> x.answer(0, false));
        CHECK.refused("21 it implies what is not known", () -> {
            WhatToRead y = Made.chain(12);
            y.answer(0, false);
            return y;
        }, x -> x.answer(11, true));
        WhatToRead x = Made.chain(2);
        x.answer(1, true);
        CHECK.same("21 none would be left", x.answer(0, false), -1);
        CHECK.same("21 so it was not answered", x.answer(0, true), 1);
    }

    // Promise 22: "No answers any more: how many STATES there are."
    private static void askNoAnswersAnyMore() {
        CHECK.same("22 without topics", new WhatToRead().ask(), 1);
        WhatToRead x = Made.plain(12);
        CHECK.same("22 no answers yet", x.ask(), 4096);
        for (int topic = 0; topic < 12; topic++) {
            x.answer(topic, true);
        }
        CHECK.same("22 all answered", x.states(), 1);
        CHECK.same("22 all again", x.ask(), 4096);
        CHECK.same("22 states", x.states(), 4096);
        for (int topic = 0; topic < 12; topic++) {
            CHECK.same("22 not answered: " + topic, x.answer(topic, false), 2048 >> topic);
        }
        WhatToRead y = comb(2);
        y.answer(0, false);
        y.ask();
        CHECK.states("22 as they were", y, 0, 1, 3, 5, 7);
        y.know(3);
        y.ask();
        CHECK.same("22 known stays", y.count(2), 3);
    }

    // Promise 23: "How many STATES."
    private static void statesHowMany() {
        CHECK.same("23 without topics", new WhatToRead().states(), 1);
        WhatToRead x = new WhatToRead();
        for (int count = 1; count <= 12; count++) {
            x.topic(0, 0);
            CHECK.same("23 of " + count + " topics", x.states(), 1 << count);
        }
        CHECK.same("23 a thirteenth topic", x.topic(0, 0), -1);
        CHECK.same("23 refused", x.states(), 4096);
        CHECK.same("23 a chain of twelve", Made.chain(12).states(), 13);
        CHECK.same("23 eleven imply one", comb(11).states(), 2049);
    }

    // Promise 24: "The next QUESTION"
    private static void questionTheNext() {
        CHECK.same("24 the only topic", Made.plain(1).question(), 0);
        CHECK.same("24 of twelve", Made.plain(12).question(), 0);
        CHECK.same("24 7 and 6 of 13, or 6 and 7", Made.chain(12).question(), 5);
        WhatToRead x = Made.plain(12);
        for (int topic = 0; topic < 11; topic++) {
            x.answer(topic, true);
        }
        CHECK.same("24 the last of twelve", x.question(), 11);
        CHECK.same("24 asking does not answer", x.states(), 2);
    }

    // Promise 24: "NONE: there is just one STATE."
    private static void questionNoneOneState() {
        CHECK.same("24 without topics", new WhatToRead().question(), -1);
        WhatToRead x = Made.chain(12);
        x.answer(11, true);
        CHECK.same("24 all known, not all answered", x.question(), -1);
        x.ask();
        x.answer(0, false);
        CHECK.same("24 none known, not all answered", x.question(), -1);
        WhatToRead y = Made.plain(1);
        y.answer(0, true);
        CHECK.same("24 all answered", y.question(), -1);
        y.topic(0, 0);
        CHECK.same("24 a new topic", y.question(), 1);
    }

    // Promise 25: "How many QUESTIONS at worst, each the next one, until there is one STATE."
    private static void worstUntilThereIsOne() {
        CHECK.same("25 without topics", new WhatToRead().worst(), 0);
        CHECK.same("25 two states", Made.plain(1).worst(), 1);
        CHECK.same("25 three states", Made.chain(2).worst(), 2);
        CHECK.same("25 13 states", Made.chain(12).worst(), 4);
        CHECK.same("25 64 states", Made.plain(6).worst(), 6);
        WhatToRead x = Made.plain(12);
        for (int topic = 0; topic < 12; topic++) {
            x.answer(topic, true);
            CHECK.same("25 behind answers: " + topic, x.worst(), topic < 5 ? -1 : 11 - topic);
        }
        CHECK.same("25 five states", comb(2).worst(), 3);
        WhatToRead y = Made.plain(11);
        for (int topic = 0; topic < 11; topic++) {
            y.answer(topic, false);
        }
        y.topic(0, 0);
        CHECK.same("25 the last of twelve", y.worst(), 1);

        // A topic, and a chain of eleven others: one question, and four for twelve states.
        WhatToRead z = new WhatToRead();
        for (int i = 0; i < 12; i++) {
            z.topic(0, (1 << i) - 1 & ~1);
        }
        CHECK.same("25 two chains", z.states(), 24);
        CHECK.same("25 two chains at worst", z.worst(), 5);
        CHECK.same("25 asking does not answer", z.states(), 24);
    }

    // The states with a topic and those without it may take more questions, the one or the other.
    private static void worstOfTheLongerSide() {
        int[][] implied = {{0, 0, 1, 6}, {0, 1, 1, 1}, {0, 1, 0, 5}, {0, 0, 2, 0, 2, 9}, {0, 0, 0, 4, 12, 22, 9},
            {0, 0, 0, 1, 0, 20, 18}};
        int[][] due = {{7, 3}, {9, 4}, {8, 4}, {25, 6}, {23, 5}, {39, 7}};
        for (int i = 0; i < implied.length; i++) {
            WhatToRead x = new WhatToRead();
            for (int implies : implied[i]) {
                x.topic(0, implies);
            }
            CHECK.same("25 states of " + i, x.states(), due[i][0]);
            CHECK.same("25 at worst of " + i, x.worst(), due[i][1]);
            CHECK.same("25 again of " + i, x.worst(), due[i][1]);
        }
    }

    // Promise 25: "NONE: more than 64 STATES."
    private static void worstNoneMoreThan64() {
        CHECK.same("25 64 states", Made.plain(6).states(), 64);
        CHECK.same("25 64 states at worst", Made.plain(6).worst(), 6);
        CHECK.same("25 65 states", comb(6).states(), 65);
        CHECK.refused("25 65 states at worst", () -> comb(6), WhatToRead::worst);
        CHECK.refused("25 128 states at worst", () -> Made.plain(7), WhatToRead::worst);
        CHECK.refused("25 4096 states at worst", Made::full, WhatToRead::worst);
        WhatToRead x = comb(6);
        CHECK.same("25 one fewer", x.answer(0, true), 64);
        CHECK.same("25 one fewer at worst", x.worst(), 6);
        x.ask();
        CHECK.same("25 65 again", x.worst(), -1);
    }

    // Promise 26: "KNOWN becomes what all STATES have in common: this."
    private static void settleInCommon() {
        CHECK.same("26 without topics", new WhatToRead().settle(), 0);
        WhatToRead x = Made.plain(12);
        x.know(4095);
        CHECK.same("26 nothing", x.settle(), 0);
        CHECK.same("26 nothing is known any more", x.count(2), 0);
        x.answer(11, true);
        CHECK.same("26 the last", x.settle(), 2048);
        x.answer(0, false);
        CHECK.same("26 not what none has", x.settle(), 2048);
        WhatToRead y = Made.chain(12);
        y.answer(11, true);
        CHECK.same("26 all", y.settle(), 4095);
        CHECK.same("26 all are known", y.count(2), 4095);
        CHECK.same("26 one state", y.states(), 1);
        CHECK.same("26 answered still", y.answer(11, true), -1);
        y.ask();
        CHECK.same("26 known until then", y.count(2), 4095);
    }

    // Promise 27: "The i-th STATE (ascending as bits)."
    private static void stateAscending() {
        CHECK.states("27 without topics", new WhatToRead(), 0);
        WhatToRead x = Made.plain(12);
        for (int i = 0; i < 4096; i += 63) {
            CHECK.same("27 state(" + i + ")", x.state(i), i);
        }
        CHECK.same("27 the last", x.state(4095), 4095);
        x.answer(0, true);
        CHECK.same("27 the first with it", x.state(0), 1);
        CHECK.same("27 the last with it", x.state(2047), 4095);
        CHECK.states("27 a comb", comb(3), 0, 1, 3, 5, 7, 9, 11, 13, 15);
        WhatToRead y = comb(3);
        y.answer(2, false);
        y.topic(0, 2);
        CHECK.states("27 a topic behind an answer", y, 0, 1, 3, 9, 11, 19, 27);
        y.worst();
        CHECK.states("27 behind worst()", y, 0, 1, 3, 9, 11, 19, 27);
    }

    // Promise 27: "NoSuchElementException: none such."
    private static void stateNoneSuch() {
        CHECK.noState(new WhatToRead(), 1);
        CHECK.noState(new WhatToRead(), -1);
        WhatToRead x = Made.plain(12);
        for (int i : new int[] {Integer.MIN_VALUE, -4096, -1, 4096, 4097, 1 << 30, Integer.MAX_VALUE}) {
            CHECK.noState(x, i);
        }
        x.answer(5, false);
        CHECK.same("27 the last that is left", x.state(2047), 4095 - 32);
        CHECK.noState(x, 2048);
        CHECK.noState(x, 4095);
        x.ask();
        CHECK.same("27 there again", x.state(4095), 4095);
    }
}
