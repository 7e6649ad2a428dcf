/** Compares answers with those that are due, and ends with exit code 1 if one was wrong. */
final class Check {
    interface Call {
        long run();
    }

    private static final int MOST_TOLD = 40;
    private int wrong = 0;
    private int asked = 0;

    void due(String what, long got, long want) {
        asked++;
        if (got != want) {
            wrong++;
            if (wrong <= MOST_TOLD) {
                System.out.println(what + " answered " + got + ", due is " + want);
            }
        }
    }

    void due(String what, boolean got, boolean want) {
        due(what, got ? 1 : 0, want ? 1 : 0);
    }

    /** The call must throw exactly this exception, and must leave the desk as it is. */
    void refused(NumberPlace x, String what, Class<? extends RuntimeException> due, Call call) {
        asked++;
        long before = x.digest();
        String got = "nothing";
        try {
            call.run();
        } catch (RuntimeException e) {
            got = e.getClass().getSimpleName();
        }
        if (!got.equals(due.getSimpleName())) {
            wrong++;
            System.out.println(what + " threw " + got + ", due is " + due.getSimpleName());
        }
        due(what + ": the digest behind it", x.digest(), before);
    }

    void index(NumberPlace x, String what, Call call) {
        refused(x, what, IndexOutOfBoundsException.class, call);
    }

    void argument(NumberPlace x, String what, Call call) {
        refused(x, what, IllegalArgumentException.class, call);
    }

    void state(NumberPlace x, String what, Call call) {
        refused(x, what, IllegalStateException.class, call);
    }

    void same(String what, String got, String want) {
        asked++;
        if (!got.equals(want)) {
            wrong++;
            System.out.println(what + " " + got + ", due is " + want);
        }
    }

    boolean isGood() {
        return asked > 0 && wrong == 0;
    }

    void end() {
        System.out.println(asked + " answers looked at, " + wrong + " wrong");
        if (wrong != 0) {
            System.exit(1);
        }
    }

    /** A desk with the puzzle of a text; a short text gets dots up to 36 cells. */
    static NumberPlace desk(String givens, String constraints) {
        NumberPlace x = new NumberPlace();
        write(x, givens + "....................................".substring(givens.length()) + constraints);
        if (x.parse() < 0) {
            throw new IllegalStateException("the test's own text is wrong: " + givens + constraints);
        }
        return x;
    }

    static void write(NumberPlace x, String text) {
        for (int k = 0; k < text.length(); k++) {
            x.append(text.charAt(k));
        }
    }

    static void strikeAll(NumberPlace x, int cell, int... digits) {
        for (int digit : digits) {
            x.strike(cell, digit);
        }
    }
}
