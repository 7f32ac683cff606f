/** Counts and prints what is not as it is due; each test ends with a call of finish. */
final class Check {

    /** A call that is tried. */
    interface Call {
        void go();
    }

    private static int checks = 0;
    private static int wrong = 0;
    private static int sentences = 0;
    private static String sentence = "";

    private Check() {
    }

    /** Tells the words of the document that the checks behind this call are about. */
    static void sentence(String words) {
        sentences++;
        sentence = words;
    }

    /** The numbers next to a range on both sides, and the ones farthest from it. */
    static int[] outside(int first, int last) {
        return new int[] {first - 1, last + 1, Integer.MIN_VALUE, Integer.MAX_VALUE};
    }

    static void due(String what, long got, long want) {
        checks++;
        if (got != want) {
            tell(what + " answered " + got + ", due is " + want);
        }
    }

    static void due(String what, boolean got, boolean want) {
        checks++;
        if (got != want) {
            tell(what + " answered " + got + ", due is " + want);
        }
    }

    static void dueDouble(String what, double got, double want) {
        checks++;
        if (Double.compare(got, want) != 0) {
            tell(what + " answered " + got + ", due is " + want);
        }
    }

    static void dueText(String what, String got, String want) {
        checks++;
        if (!got.equals(want)) {
            tell(what + " answered " + got + ", due is " + want);
        }
    }

    /** The very class is asked for, so that what the machine throws (a class below it) does not count. */
    static void refused(String what, Class<? extends RuntimeException> want, Call call) {
        checks++;
        try {
            call.go();
        } catch (RuntimeException e) {
            if (e.getClass() != want) {
                tell(what + " threw " + e + ", due is " + want.getSimpleName());
            }
            return;
        }
        tell(what + " threw nothing, due is " + want.getSimpleName());
    }

    static void noSuchIndex(String what, Call call) {
        refused(what, IndexOutOfBoundsException.class, call);
    }

    static void badArgument(String what, Call call) {
        refused(what, IllegalArgumentException.class, call);
    }

    static void badState(String what, Call call) {
        refused(what, IllegalStateException.class, call);
    }

    static void noElement(String what, Call call) {
        refused(what, java.util.NoSuchElementException.class, call);
    }

    static void notSupported(String what, Call call) {
        refused(what, UnsupportedOperationException.class, call);
    }

    static void noNumber(String what, Call call) {
        refused(what, ArithmeticException.class, call);
    }

    private static void tell(String text) {
        wrong++;
        if (wrong <= 50) {
            System.out.println(sentence.isEmpty() ? text : text + "\n    " + sentence);
        }
    }

    static void finish() {
        String of = sentences == 0 ? "" : " of " + sentences + " sentences";
        System.out.println(checks + " checks" + of + ", " + wrong + " wrong");
        if (wrong != 0) {
            System.exit(1);
        }
    }
}
