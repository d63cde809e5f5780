/** Promises 21 to 27: answers, states, questions. */
public final class AskingTest {
    private static final Check CHECK = new Check("AskingTest");

    public static void main(String[] args) {
        answering();
        answerRefused();
        askingAnew();
        statesOfTopics();
        topicsBehindAnswers();
        nextQuestion();
        questionsAtWorst();
        settling();
        allStates();
        CHECK.end();
    }

    private static WhatToRead chain() {
        WhatToRead x = new WhatToRead();
        x.topic(3, 0);
        x.topic(2, 1);
        x.topic(5, 2);
        return x;
    }

    private static WhatToRead plainTopics(int count) {
        WhatToRead x = new WhatToRead();
        for (int i = 0; i < count; i++) {
            x.topic(1, 0);
        }
        return x;
    }

    private static void answering() {
        WhatToRead x = chain();
        CHECK.same("21 answer(0, true)", x.answer(0, true), 3);
        CHECK.states("21 answer(0, true)", x, 1, 3, 7);
        CHECK.same("21 answer(2, false)", x.answer(2, false), 2);
        CHECK.states("21 answer(2, false)", x, 1, 3);
        CHECK.same("21 answer(1, false)", x.answer(1, false), 1);
        CHECK.states("21 answer(1, false)", x, 1);

        WhatToRead y = chain();
        CHECK.same("21 the last brings all", y.answer(2, true), 1);
        CHECK.same("21 what it implies was not answered", y.answer(0, true), 1);
        CHECK.same("21 now it was", y.answer(0, true), -1);
        CHECK.states("21 all", y, 7);
    }

    private static void answerRefused() {
        WhatToRead x = chain();
        CHECK.same("21 no such topic", x.answer(3, true), -1);
        CHECK.same("21 no such topic", x.answer(3, false), -1);
        CHECK.same("21 no such topic", x.answer(-1, true), -1);
        CHECK.same("21 no such topic", x.answer(-1, false), -1);
        CHECK.same("21 no such topic", x.answer(32, false), -1);
        CHECK.same("21 lowest int", x.answer(Integer.MIN_VALUE, false), -1);
        x.answer(1, true);
        CHECK.same("21 was answered", x.answer(1, true), -1);
        CHECK.same("21 was answered", x.answer(1, false), -1);
        CHECK.same("21 none would be left", x.answer(0, false), -1);
        CHECK.states("21 refused", x, 3, 7);
        CHECK.same("21 a refused answer is none", x.answer(0, true), 2);
        CHECK.same("21 the first was answered still", x.answer(1, true), -1);
        CHECK.same("21 no topic", new WhatToRead().answer(0, true), -1);
    }

    private static void askingAnew() {
        WhatToRead x = chain();
        x.answer(1, true);
        x.answer(2, false);
        CHECK.same("22 ask()", x.ask(), 4);
        CHECK.states("22 ask()", x, 0, 1, 3, 7);
        CHECK.same("22 no answers any more", x.answer(1, false), 2);
        CHECK.same("22 ask()", x.ask(), 4);
        CHECK.same("22 not the first either", x.answer(0, true), 3);
    }

    private static void statesOfTopics() {
        WhatToRead x = new WhatToRead();
        x.topic(1, 0);
        x.topic(1, 0);
        x.topic(1, 3);
        x.topic(1, 2);
        CHECK.states("23 ascending", x, 0, 1, 2, 3, 7, 10, 11, 15);
        x.know(1);
        CHECK.same("23 what is known is no answer", x.states(), 8);
        x.answer(3, true);
        CHECK.states("27 ascending", x, 10, 11, 15);
        CHECK.same("22 all again", x.ask(), 8);
        CHECK.states("27 ascending again", x, 0, 1, 2, 3, 7, 10, 11, 15);
    }

    private static void topicsBehindAnswers() {
        WhatToRead x = plainTopics(2);
        x.answer(0, true);
        CHECK.same("2 a topic behind answers", x.topic(0, 2), 2);
        CHECK.states("23 a topic behind answers", x, 1, 3, 7);
        CHECK.same("2 one more", x.topic(0, 1), 3);
        CHECK.states("23 one more", x, 1, 3, 7, 9, 11, 15);
        CHECK.same("21 was answered", x.answer(0, true), -1);
        CHECK.same("21 the new one", x.answer(3, false), 3);

        WhatToRead y = plainTopics(1);
        y.answer(0, false);
        y.topic(0, 1);
        CHECK.states("23 it implies what is not known", y, 0);
        CHECK.same("24 nothing to ask", y.question(), -1);
    }

    private static void nextQuestion() {
        WhatToRead x = chain();
        CHECK.same("24 the middle", x.question(), 1);
        x.answer(1, false);
        CHECK.same("24 the rest", x.question(), 0);
        x.answer(0, false);
        CHECK.same("24 one state", x.question(), -1);
        CHECK.same("24 not answered, but settled", x.answer(2, false), 1);

        CHECK.same("24 the least of equal ones", plainTopics(5).question(), 0);
        WhatToRead y = plainTopics(5);
        y.answer(0, true);
        CHECK.same("24 not what was answered", y.question(), 1);

        WhatToRead z = new WhatToRead();
        z.topic(0, 0);
        z.topic(0, 0);
        z.topic(0, 3);
        z.topic(0, 4);
        CHECK.same("24 4 of 6, 4 of 6, 2 of 6, 1 of 6", z.question(), 0);
        z.answer(0, true);
        CHECK.same("24 3 of 4, 2 of 4, 1 of 4", z.question(), 2);

        WhatToRead w = new WhatToRead();
        w.topic(0, 0);
        w.topic(0, 1);
        w.topic(0, 1);
        CHECK.same("24 4 of 5, 2 of 5, 2 of 5", w.question(), 1);
    }

    private static void questionsAtWorst() {
        int[] chains = {0, 1, 2, 2, 3, 3, 3, 3, 4, 4, 4, 4, 4};
        for (int count = 0; count <= 12; count++) {
            WhatToRead x = new WhatToRead();
            for (int i = 0; i < count; i++) {
                x.topic(0, i == 0 ? 0 : 1 << i - 1);
            }
            CHECK.same("25 a chain of " + count, x.worst(), chains[count]);
        }
        CHECK.same("25 64 states", plainTopics(6).worst(), 6);
        CHECK.same("25 128 states", plainTopics(7).worst(), -1);

        // 2^6 states with, one without: 65 are more than 64, and an answer brings them back.
        WhatToRead x = plainTopics(1);
        for (int i = 0; i < 6; i++) {
            x.topic(0, 1);
        }
        CHECK.same("25 states", x.states(), 65);
        CHECK.same("25 65 states", x.worst(), -1);
        x.answer(0, true);
        CHECK.same("25 64 of them", x.worst(), 6);

        WhatToRead comb = new WhatToRead();
        comb.topic(0, 0);
        for (int i = 1; i < 6; i++) {
            comb.topic(0, 1);
        }
        CHECK.same("25 33 states", comb.states(), 33);
        CHECK.same("25 at worst", comb.worst(), 6);
        CHECK.states("25 changes nothing", plainTopics(2), 0, 1, 2, 3);
        comb.worst();
        CHECK.same("25 the order stays", comb.state(1), 1);
        CHECK.same("25 the order stays", comb.state(2), 3);
        CHECK.same("25 the order stays", comb.state(32), 63);
    }

    private static void settling() {
        WhatToRead x = chain();
        x.know(7);
        CHECK.same("26 nothing in common", x.settle(), 0);
        CHECK.same("26 known", x.count(2), 0);
        x.answer(1, true);
        CHECK.same("26 in common", x.settle(), 3);
        CHECK.same("26 known", x.count(2), 3);
        CHECK.states("26 answers stay", x, 3, 7);
        x.answer(2, true);
        CHECK.same("26 all", x.settle(), 7);
        x.ask();
        CHECK.same("26 known stays until then", x.count(2), 7);
        CHECK.same("26 nothing again", x.settle(), 0);
    }

    private static void allStates() {
        WhatToRead x = plainTopics(12);
        CHECK.same("23 all states", x.states(), 4096);
        CHECK.same("24 all states", x.question(), 0);
        CHECK.same("27 state(0)", x.state(0), 0);
        CHECK.same("27 state(4095)", x.state(4095), 4095);
        CHECK.noState(x, 4096);
        CHECK.noState(x, -1);
        CHECK.noState(x, Integer.MIN_VALUE);
        CHECK.noState(x, Integer.MAX_VALUE);
        CHECK.same("22 all states", x.ask(), 4096);
        CHECK.same("21 half of them", x.answer(11, true), 2048);
        CHECK.same("27 state(0)", x.state(0), 2048);
        CHECK.noState(x, 2048);
    }
}
