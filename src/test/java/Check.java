/** What the tests share: answers are held against those that are due, and the wrong ones are printed. */
final class Check {
    static final String INDEX = "IndexOutOfBoundsException";
    static final String ARGUMENT = "IllegalArgumentException";
    static final String STATE = "IllegalStateException";

    interface Call {
        void make();
    }

    private int wrong = 0;

    void due(String what, long got, long want) {
        if (got != want) {
            wrong++;
            System.out.println(what + " answered " + got + ", due is " + want);
        }
    }

    void due(String what, boolean got, boolean want) {
        due(what, got ? 1 : 0, want ? 1 : 0);
    }

    void due(String what, String got, String want) {
        if (!got.equals(want)) {
            wrong++;
            System.out.println(what + " answered " + got + ", due is " + want);
        }
    }

    void dueThrow(String what, String want, Call call) {
        due(what, thrownBy(call), want);
    }

    /** The call throws, and every answer that the object gives is as it was. */
    void dueThrowAndNoChange(String what, CountedObjects x, String want, Call call) {
        String before = Picture.of(x);
        dueThrow(what, want, call);
        due(what + ", the state behind it", Picture.of(x), before);
    }

    private static String thrownBy(Call call) {
        try {
            call.make();
        } catch (RuntimeException e) {
            return e.getClass().getSimpleName();
        }
        return "nothing thrown";
    }

    void end() {
        if (wrong != 0) {
            System.out.println(wrong + " answers are not as due");
            System.exit(1);
        }
    }
}
