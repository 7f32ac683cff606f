/** Counts and prints what is not as it is due; each test ends with a call of finish. */
final class Check {

    /** A call that is tried. */
    interface Call {
        void go();
    }

    private static int checks = 0;
    private static int wrong = 0;

    private Check() {
    }

    static void due(String what, long got, long want) {
        checks++;
        if (got != want) {
            tell(what + " answered " + got + ", due is " + want);
        }
    }

    static void due(String what, boolean got, boolean want) {
        checks++;
        if (got != want) {
            tell(what + " answered " + got + ", due is " + want);
        }
    }

    static void dueDouble(String what, double got, double want) {
        checks++;
        if (Double.compare(got, want) != 0) {
            tell(what + " answered " + got + ", due is " + want);
        }
    }

    static void dueText(String what, String got, String want) {
        checks++;
        if (!got.equals(want)) {
            tell(what + " answered " + got + ", due is " + want);
        }
    }

    /** The very class is asked for, so that what the machine throws (a class below it) does not count. */
    static void refused(String what, Class<? extends RuntimeException> want, Call call) {
        checks++;
        try {
            call.go();
        } catch (RuntimeException e) {
            if (e.getClass() != want) {
                tell(what + " threw " + e + ", due is " + want.getSimpleName());
            }
            return;
        }
        tell(what + " threw nothing, due is " + want.getSimpleName());
    }

    static void noSuchIndex(String what, Call call) {
        refused(what, IndexOutOfBoundsException.class, call);
    }

    static void badArgument(String what, Call call) {
        refused(what, IllegalArgumentException.class, call);
    }

    static void badState(String what, Call call) {
        refused(what, IllegalStateException.class, call);
    }

    static void noElement(String what, Call call) {
        refused(what, java.util.NoSuchElementException.class, call);
    }

    static void notSupported(String what, Call call) {
        refused(what, UnsupportedOperationException.class, call);
    }

    static void noNumber(String what, Call call) {
        refused(what, ArithmeticException.class, call);
    }

    private static void tell(String text) {
        wrong++;
        if (wrong <= 50) {
            System.out.println(text);
        }
    }

    static void finish() {
        System.out.println(checks + " checks, " + wrong + " wrong");
        if (wrong != 0) {
            System.exit(1);
        }
    }
}
