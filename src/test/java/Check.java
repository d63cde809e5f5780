import java.util.NoSuchElementException;
import java.util.function.Supplier;
import java.util.function.ToIntFunction;

/** Tells each answer that is not the one due, and ends a test's run. */
final class Check {
    private final String name;
    private int checks = 0;
    private int wrong = 0;

    Check(String name) {
        this.name = name;
    }

    void same(String what, long got, long due) {
        checks++;
        if (got != due) {
            wrong++;
            System.out.println(name + ": " + what + " answered " + got + ", due is " + due);
        }
    }

    void same(String what, boolean got, boolean due) {
        same(what, got ? 1 : 0, due ? 1 : 0);
    }

    void noState(WhatToRead x, int i) {
        boolean thrown = false;
        try {
            x.state(i);
        } catch (NoSuchElementException e) {
            thrown = true;
        }
        same("state(" + i + ") throws", thrown, true);
    }

    /** A call that is to be refused: NONE, and the object tells what one tells that had no such call. */
    void refused(String what, Supplier<WhatToRead> made, ToIntFunction<WhatToRead> call) {
        WhatToRead x = made.get();
        same(what, call.applyAsInt(x), WhatToRead.NONE);
        String due = Made.told(made.get());
        String got = Made.told(x);
        same(what + " changes nothing (now " + got + ", before " + due + ")", got.equals(due), true);
    }

    void row(String what, WhatToRead x, int... due) {
        same(what + ": count(5)", x.count(5), due.length);
        for (int i = 0; i < due.length; i++) {
            same(what + ": step(" + i + ")", x.step(i), due[i]);
        }
        same(what + ": step behind", x.step(due.length), WhatToRead.NONE);
        same(what + ": step ahead", x.step(-1), WhatToRead.NONE);
    }

    void laid(String what, WhatToRead x, int... due) {
        for (int i = 0; i < due.length; i++) {
            same(what + ": laid(" + i + ")", x.laid(i), due[i]);
        }
        same(what + ": laid behind", x.laid(due.length), WhatToRead.NONE);
        same(what + ": laid ahead", x.laid(-1), WhatToRead.NONE);
    }

    void states(String what, WhatToRead x, int... due) {
        same(what + ": states()", x.states(), due.length);
        for (int i = 0; i < due.length; i++) {
            same(what + ": state(" + i + ")", x.state(i), due[i]);
        }
        noState(x, due.length);
        noState(x, -1);
    }

    void end() {
        System.out.println(name + ": " + checks + " checks, " + wrong + " wrong");
        if (wrong != 0 || checks == 0) {
            System.exit(1);
        }
    }
}
