/** Compares answers with those that are due, prints every one that differs, and ends the test. */
final class Due {
    static final String INDEX = "throws.IndexOutOfBoundsException";
    static final String ARGUMENT = "throws.IllegalArgumentException";
    static final String ARITHMETIC = "throws.ArithmeticException";

    private static int wrong = 0;
    private static int asked = 0;
    private static int sentences = 0;

    private Due() {
    }

    /** A call of the face that may throw. */
    interface Call {
        double answer();
    }

    /** Runs the test of one sentence, which must stand in the document under that heading. */
    static void sentence(String heading, String words, Runnable test) {
        sentences++;
        yes("the document says under \"" + heading + "\": " + words, Document.says(heading, words));
        int before = wrong;
        try {
            test.run();
        } catch (RuntimeException e) {
            fault("the test", e, "no exception");
        }
        if (wrong != before) {
            System.out.println("BROKEN: " + heading + ": " + words);
        }
    }

    static void same(String call, Object got, Object want) {
        asked++;
        if (!got.equals(want)) {
            fault(call, got, want);
        }
    }

    private static void fault(String call, Object got, Object want) {
        wrong++;
        System.out.println(call + " answered " + got + ", due is " + want);
    }

    static void yes(String call, boolean got) {
        same(call, got, true);
    }

    static void no(String call, boolean got) {
        same(call, got, false);
    }

    // By ==, so that 0.0 and -0.0 are the same number; NaN is never due.
    static void number(String call, double got, double want) {
        asked++;
        if (!(got == want)) {
            fault(call, got, want);
        }
    }

    /** For answers whose arithmetic the document tells to the last sign: 0.0 and -0.0 differ. */
    static void exact(String call, double got, double want) {
        same(call, got, want);
    }

    /** The answer as text, or the exact class of what was thrown, so that what the machine throws differs. */
    static String told(Call call) {
        try {
            return Double.toString(call.answer());
        } catch (RuntimeException e) {
            String name = e.getClass().getName();
            return "throws." + (name.startsWith("java.lang.") ? name.substring(10) : name);
        }
    }

    static void tells(String call, Call got, double want) {
        same(call, told(got), Double.toString(want));
    }

    static void refuses(String call, Call got, String want) {
        same(call, told(got), want);
    }

    static void end() {
        if (sentences != 0) {
            System.out.print(sentences + " sentences, ");
        }
        System.out.println(asked + " answers asked, " + wrong + " not as due");
        if (wrong != 0) {
            System.exit(1);
        }
    }
}
