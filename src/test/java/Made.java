/** Objects that several tests begin with. */
final class Made {
    private Made() { }

    /** Topics that imply nothing, each worth 1. */
    static WhatToRead plain(int count) {
        WhatToRead x = new WhatToRead();
        for (int i = 0; i < count; i++) {
            x.topic(1, 0);
        }
        return x;
    }

    /** Topics of which each but the first implies the one ahead, each worth 1. */
    static WhatToRead chain(int count) {
        WhatToRead x = new WhatToRead();
        for (int i = 0; i < count; i++) {
            x.topic(1, i == 0 ? 0 : 1 << i - 1);
        }
        return x;
    }

    /** Twelve topics; fourteen pieces of 1, 2, .. 14 pages, each of which gives the first topic. */
    static WhatToRead full() {
        WhatToRead x = plain(12);
        for (int i = 0; i < 14; i++) {
            x.piece(0, 0, 1, 1, i + 1);
        }
        return x;
    }

    /** Something of everything: known, a row, another one laid, weeks, an answer. */
    static WhatToRead rich() {
        WhatToRead x = new WhatToRead();
        x.topic(3, 0);
        x.topic(2, 1);
        x.topic(5, 2);
        x.topic(1, 0);
        x.topic(0, 0);
        x.piece(0, 0, 1, 1, 30);
        x.piece(1, 0, 2, 0, 20);
        x.piece(0, 10, 4, 0, 50);
        x.piece(0, 0, 8, 8, 90);
        x.piece(16, 0, 1, 0, 5);
        x.pace(3);
        x.know(1);
        x.week(0, 50);
        x.week(1, 150);
        x.week(51, 10);
        x.way(4);
        x.lay(0);
        x.most(100);
        x.answer(1, true);
        return x;
    }

    /**
     * All that can be told of an object, in fewer than 512 calls: two objects that tell the same
     * are in the same state, as far as it can be seen. The object is not to be used afterwards.
     */
    static String told(WhatToRead x) {
        StringBuilder text = new StringBuilder("counts");
        for (int what = 0; what < 6; what++) {
            text.append(' ').append(x.count(what));
        }
        text.append(", laid");
        for (int i = 0; i < 12; i++) {
            text.append(' ').append(x.laid(i));
        }
        tellRow(text.append(", latest"), x);
        text.append(", weeks");
        for (int week = 0; week < 52; week++) {
            text.append(' ').append(x.lay(week));
        }
        text.append(", topics");
        for (int topic = 0; topic < x.count(0); topic++) {
            text.append(' ').append(x.with(1 << topic));
        }
        text.append(", steps");
        for (int step = 0; step < 28; step++) {
            text.append(' ').append(x.minutes(step)).append(':').append(x.can(step));
        }
        text.append(", ways");
        for (int topic = 0; topic < x.count(0); topic++) {
            tellRow(text.append(" of ").append(x.way(1 << topic)).append(':'), x);
        }
        text.append(", most ").append(x.most(1000));
        text.append(", reach ").append(x.reach()).append(", gaps ").append(x.gaps());
        tellAsking(text, x);
        return text.toString();
    }

    private static void tellRow(StringBuilder text, WhatToRead x) {
        for (int i = 0; i < 6; i++) {
            text.append(' ').append(x.step(i));
        }
    }

    private static void tellAsking(StringBuilder text, WhatToRead x) {
        text.append(", question ").append(x.question()).append(", worst ").append(x.worst()).append(", states");
        int states = x.states();
        for (int i = 0; i < Math.min(states, 20); i++) {
            text.append(' ').append(x.state(i));
        }
        text.append(", of ").append(states).append(", settled ").append(x.settle()).append(", answers");
        for (int topic = 0; topic < x.count(0); topic++) {
            text.append(' ').append(x.answer(topic, true));
        }
    }
}
