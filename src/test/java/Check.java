/** Counts wrong answers, prints each, and ends the program with 1 if there was one. */
final class Check {
    interface Call {
        void run();
    }

    private final String test;
    private int asked = 0;
    private int wrong = 0;
    private String sentence = "";

    Check(String test) {
        this.test = test;
    }

    /** The sentence of the document that the answers from here on stand for. */
    void about(String sentence) {
        this.sentence = " [" + sentence + "]";
    }

    void same(String call, double got, double want) {
        asked++;
        if (got != want) {
            tell(call, Double.toString(got), Double.toString(want));
        }
    }

    void same(String call, boolean got, boolean want) {
        asked++;
        if (got != want) {
            tell(call, Boolean.toString(got), Boolean.toString(want));
        }
    }

    void same(String call, String got, String want) {
        asked++;
        if (!got.equals(want)) {
            tell(call, got, want);
        }
    }

    void near(String call, double got, double want) {
        asked++;
        if (!(Math.abs(got - want) < 1e-6)) {
            tell(call, Double.toString(got), "about " + want);
        }
    }

    void noSuch(String call, Call run) {
        refuses(call, IndexOutOfBoundsException.class, run);
    }

    void badArgument(String call, Call run) {
        refuses(call, IllegalArgumentException.class, run);
    }

    void badState(String call, Call run) {
        refuses(call, IllegalStateException.class, run);
    }

    /** The very class, not one below it: the machine's own exceptions are below these. */
    private void refuses(String call, Class<?> want, Call run) {
        same(call, outcome(run), want.getName());
    }

    private static String outcome(Call run) {
        try {
            run.run();
            return "nothing thrown";
        } catch (RuntimeException e) {
            return e.getClass().getName();
        }
    }

    private void tell(String call, String got, String want) {
        wrong++;
        if (wrong <= 50) {
            System.out.println(test + sentence + ": " + call + " answered " + got + ", due is " + want);
        }
    }

    void end() {
        System.out.println(test + ": " + asked + " answers, " + wrong + " wrong");
        if (wrong != 0) {
            System.exit(1);
        }
    }
}
