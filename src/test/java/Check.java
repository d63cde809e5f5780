import java.util.NoSuchElementException;

/** Tells each answer that is not the one due, and ends a test's run. */
final class Check {
    private final String name;
    private int checks = 0;
    private int wrong = 0;

    Check(String name) {
        this.name = name;
    }

    void same(String what, long got, long due) {
        checks++;
        if (got != due) {
            wrong++;
            System.out.println(name + ": " + what + " answered " + got + ", due is " + due);
        }
    }

    void same(String what, boolean got, boolean due) {
        same(what, got ? 1 : 0, due ? 1 : 0);
    }

    void noState(WhatToRead x, int i) {
        boolean thrown = false;
        try {
            x.state(i);
        } catch (NoSuchElementException e) {
            thrown = true;
        }
        same("state(" + i + ") throws", thrown, true);
    }

    void row(String what, WhatToRead x, int... due) {
        same(what + ": count(5)", x.count(5), due.length);
        for (int i = 0; i < due.length; i++) {
            same(what + ": step(" + i + ")", x.step(i), due[i]);
        }
        same(what + ": step behind", x.step(due.length), WhatToRead.NONE);
        same(what + ": step ahead", x.step(-1), WhatToRead.NONE);
    }

    void states(String what, WhatToRead x, int... due) {
        same(what + ": states()", x.states(), due.length);
        for (int i = 0; i < due.length; i++) {
            same(what + ": state(" + i + ")", x.state(i), due[i]);
        }
        noState(x, due.length);
        noState(x, -1);
    }

    void end() {
        System.out.println(name + ": " + checks + " checks, " + wrong + " wrong");
        if (wrong != 0 || checks == 0) {
            System.exit(1);
        }
    }
}
