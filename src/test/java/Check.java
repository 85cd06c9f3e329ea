/** What the tests share: they compare answers, say what differs, and end with exit code 1 then. */
final class Check {

    interface Call {
        int run();
    }

    static final int INDEX = 1;
    static final int ARGUMENT = 2;
    static final int STATE = 3;

    private static final String[] NAMES = {
        "nothing", "IndexOutOfBoundsException", "IllegalArgumentException", "IllegalStateException"
    };

    private static int wrong = 0;
    private static int right = 0;

    private Check() {
    }

    static void answers(String what, int want, Call call) {
        try {
            same(what, want, call.run());
        } catch (RuntimeException thrown) {
            same(what + " throws " + thrown, 0, 1);
        }
    }

    static void fails(String what, int kind, Call call) {
        int got = 0;
        try {
            call.run();
        } catch (RuntimeException thrown) {
            got = kindOf(thrown);
        }
        if (got != kind) {
            System.out.println(what + " throws " + (got < 0 ? "another exception" : NAMES[got])
                    + ", due is " + NAMES[kind]);
        }
        count(got == kind);
    }

    static void same(String what, int want, int got) {
        if (want != got) {
            System.out.println(what + " answers " + got + ", due is " + want);
        }
        count(want == got);
    }

    static void same(String what, float want, float got) {
        if (want != got) {
            System.out.println(what + " answers " + got + ", due is " + want);
        }
        count(want == got);
    }

    static void same(String what, String want, String got) {
        if (!want.equals(got)) {
            System.out.println(what + " answers " + got + ", due is " + want);
        }
        count(want.equals(got));
    }

    /** The very class is asked for: the machine's own exceptions are subclasses of some of these. */
    static int kindOf(RuntimeException thrown) {
        Class<?> kind = thrown.getClass();
        if (kind == IndexOutOfBoundsException.class) {
            return INDEX;
        }
        if (kind == IllegalArgumentException.class) {
            return ARGUMENT;
        }
        return kind == IllegalStateException.class ? STATE : -1;
    }

    private static void count(boolean isRight) {
        if (isRight) {
            right++;
        } else {
            wrong++;
        }
    }

    static boolean allRight() {
        return wrong == 0;
    }

    static void end(String test) {
        System.out.println(test + ": " + right + " right, " + wrong + " wrong");
        if (wrong != 0) {
            System.exit(1);
        }
    }
}
