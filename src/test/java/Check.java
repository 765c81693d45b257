/** What the tests share: answers are held against those that are due, and the wrong ones are printed. */
final class Check {
    static final String INDEX = "IndexOutOfBoundsException";
    static final String ARGUMENT = "IllegalArgumentException";
    static final String STATE = "IllegalStateException";

    interface Call {
        void on(CountedObjects x);
    }

    interface Maker {
        CountedObjects make();
    }

    private int wrong = 0;

    void due(String what, long got, long want) {
        due(what, "" + got, "" + want);
    }

    void due(String what, boolean got, boolean want) {
        due(what, "" + got, "" + want);
    }

    void due(String what, String got, String want) {
        if (!got.equals(want)) {
            wrong++;
            System.out.println(what + " answered " + got + ", due is " + want);
        }
    }

    void dueState(String what, CountedObjects x, String want) {
        due(what + ", the state behind it", Picture.of(x), want);
    }

    void dueThrow(String what, CountedObjects x, String want, Call call) {
        due(what, thrownBy(x, call), want);
    }

    /**
     * The call throws and changes nothing. Asked on objects made anew, since the document promises
     * nothing behind an object's 512th call, and a picture takes many.
     */
    void dueRefused(String what, Maker maker, String want, Call call) {
        CountedObjects x = maker.make();
        dueThrow(what, x, want, call);
        dueState(what, x, Picture.of(maker.make()));
    }

    private static String thrownBy(CountedObjects x, Call call) {
        try {
            call.on(x);
        } catch (RuntimeException e) {
            return e.getClass().getSimpleName();
        }
        return "nothing thrown";
    }

    void end() {
        if (wrong != 0) {
            System.out.println(wrong + " answers are not as due");
            System.exit(1);
        }
    }
}
