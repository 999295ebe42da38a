/** Compares answers with those that are due, prints every one that differs, and ends the test. */
final class Due {
    static final String INDEX = "throws.IndexOutOfBoundsException";
    static final String ARGUMENT = "throws.IllegalArgumentException";
    static final String ARITHMETIC = "throws.ArithmeticException";

    private static int wrong = 0;
    private static int asked = 0;

    private Due() {
    }

    /** A call of the face that may throw. */
    interface Call {
        double answer();
    }

    static void same(String call, Object got, Object want) {
        asked++;
        if (!got.equals(want)) {
            wrong++;
            System.out.println(call + " answered " + got + ", due is " + want);
        }
    }

    static void yes(String call, boolean got) {
        same(call, got, true);
    }

    static void no(String call, boolean got) {
        same(call, got, false);
    }

    // By ==, so that 0.0 and -0.0 are the same number; NaN is never due.
    static void number(String call, double got, double want) {
        asked++;
        if (!(got == want)) {
            wrong++;
            System.out.println(call + " answered " + got + ", due is " + want);
        }
    }

    /** The answer as text, or the exact class of what was thrown, so that what the machine throws differs. */
    static String told(Call call) {
        try {
            double got = call.answer();
            return Double.toString(got == 0.0 ? 0.0 : got);
        } catch (RuntimeException e) {
            String name = e.getClass().getName();
            return "throws." + (name.startsWith("java.lang.") ? name.substring(10) : name);
        }
    }

    static void tells(String call, Call got, double want) {
        same(call, told(got), Double.toString(want == 0.0 ? 0.0 : want));
    }

    static void refuses(String call, Call got, String want) {
        same(call, told(got), want);
    }

    static void end() {
        System.out.println(asked + " answers asked, " + wrong + " not as due");
        if (wrong != 0) {
            System.exit(1);
        }
    }
}
