/** Promises 1, 2, 6, 7 and 8: a new object, topics, what is known, counts. */
public final class TopicsTest {
    private static final Check CHECK = new Check("TopicsTest");

    public static void main(String[] args) {
        newObject();
        topicNumbers();
        topicRefused();
        thirteenthTopic();
        withImplied();
        knowing();
        counts();
        CHECK.end();
    }

    private static void newObject() {
        WhatToRead x = new WhatToRead();
        int[] due = {0, 0, 0, 2, 0, 0};
        for (int what = 0; what < due.length; what++) {
            CHECK.same("1 new: count(" + what + ")", x.count(what), due[what]);
        }
        CHECK.states("1 new", x, 0);
        CHECK.same("1 new: question()", x.question(), -1);
        CHECK.same("1 new: worst()", x.worst(), 0);
        CHECK.same("1 new: settle()", x.settle(), 0);
        CHECK.same("1 new: reach()", x.reach(), 0);
        CHECK.same("1 new: gaps()", x.gaps(), 0);
        CHECK.same("1 new: way(0)", x.way(0), 0);
        CHECK.same("1 new: most(10000)", x.most(10000), 0);
        CHECK.same("1 new: drop()", x.drop(), -1);
        CHECK.same("1 new: lay(51)", x.lay(51), 51);
        CHECK.same("1 new: laid(0)", x.laid(0), -1);
        CHECK.same("1 new: shortens(0, 0)", x.shortens(0, 0), -1);
        CHECK.same("1 new: ask()", x.ask(), 1);
        CHECK.same("1 NONE", WhatToRead.NONE, -1);
    }

    private static void topicNumbers() {
        WhatToRead x = new WhatToRead();
        CHECK.same("2 topic(0, 0)", x.topic(0, 0), 0);
        CHECK.same("2 topic(9, 1)", x.topic(9, 1), 1);
        CHECK.same("2 topic(4, 3)", x.topic(4, 3), 2);
        CHECK.same("2 count(0)", x.count(0), 3);
    }

    private static void topicRefused() {
        WhatToRead x = new WhatToRead();
        x.topic(1, 0);
        CHECK.same("2 worth -1", x.topic(-1, 0), -1);
        CHECK.same("2 worth 10", x.topic(10, 0), -1);
        CHECK.same("2 implies itself", x.topic(1, 2), -1);
        CHECK.same("2 implies none such", x.topic(1, 4), -1);
        CHECK.same("2 implies -1", x.topic(1, -1), -1);
        CHECK.same("2 implies the lowest int", x.topic(1, Integer.MIN_VALUE), -1);
        CHECK.same("2 implies the highest int", x.topic(1, Integer.MAX_VALUE), -1);
        CHECK.same("2 refused: count(0)", x.count(0), 1);
        CHECK.states("2 refused", x, 0, 1);
    }

    private static void thirteenthTopic() {
        WhatToRead x = new WhatToRead();
        for (int i = 0; i < 12; i++) {
            CHECK.same("2 topic " + i, x.topic(i % 10, i == 0 ? 0 : 1 << i - 1), i);
        }
        CHECK.same("2 a thirteenth", x.topic(1, 0), -1);
        CHECK.same("2 twelve: count(0)", x.count(0), 12);
        CHECK.same("8 with the last", x.with(1 << 11), 4095);
        CHECK.same("8 with 4096", x.with(4096), -1);
        CHECK.same("6 know all", x.know(4095), 4095);
        CHECK.same("7 worth of all", x.count(4), 45 + 1);
        CHECK.same("21 a chain of twelve", x.states(), 13);
    }

    private static WhatToRead someTopics() {
        WhatToRead x = new WhatToRead();
        x.topic(3, 0);
        x.topic(2, 1);
        x.topic(5, 2);
        x.topic(1, 0);
        x.topic(7, 12);
        return x;
    }

    private static void withImplied() {
        WhatToRead x = someTopics();
        int[][] due = {{0, 0}, {1, 1}, {2, 3}, {4, 7}, {8, 8}, {16, 31}, {10, 11}, {31, 31}};
        for (int[] pair : due) {
            CHECK.same("8 with(" + pair[0] + ")", x.with(pair[0]), pair[1]);
        }
        CHECK.same("8 with(32)", x.with(32), -1);
        CHECK.same("8 with(33)", x.with(33), -1);
        CHECK.same("8 with(-1)", x.with(-1), -1);
        CHECK.same("8 with the lowest int", x.with(Integer.MIN_VALUE), -1);
        CHECK.same("8 with changes nothing", x.count(2), 0);
    }

    private static void knowing() {
        WhatToRead x = someTopics();
        CHECK.same("6 know(4)", x.know(4), 7);
        CHECK.same("6 known", x.count(2), 7);
        CHECK.same("6 know(32)", x.know(32), -1);
        CHECK.same("6 know(-1)", x.know(-1), -1);
        CHECK.same("6 still known", x.count(2), 7);
        CHECK.same("6 know(8)", x.know(8), 8);
        CHECK.same("6 not added", x.count(2), 8);
        CHECK.same("6 know(0)", x.know(0), 0);
        CHECK.same("6 nothing known", x.count(2), 0);
    }

    private static void counts() {
        WhatToRead x = someTopics();
        x.know(10);
        x.pace(7);
        x.piece(0, 0, 4, 0, 1);
        x.piece(0, 0, 4, 0, 2);
        x.way(4);
        int[] due = {5, 2, 11, 7, 6, 1};
        for (int what = 0; what < due.length; what++) {
            CHECK.same("7 count(" + what + ")", x.count(what), due[what]);
        }
        CHECK.same("7 count(6)", x.count(6), -1);
        CHECK.same("7 count(-1)", x.count(-1), -1);
        CHECK.same("7 count of the lowest int", x.count(Integer.MIN_VALUE), -1);
    }
}
