/** All promises: long runs of calls, wrong ones among them, held against the model after each call. */
public final class ModelTest {
    private static final int RUNS = 400;
    // Those that may change the state; reading it goes beyond the document's 512, where this program has no end.
    private static final int CALLS = 500;

    private final Check check;
    private final Dice dice;
    private final int words;
    private final int entries;
    private final CountedObjects x;
    private final Model model;
    private String what = "";

    public static void main(String[] args) {
        Check check = new Check();
        for (int run = 0; run < RUNS; run++) {
            new ModelTest(check, run).play();
        }
        check.end();
    }

    private ModelTest(Check check, int run) {
        this.check = check;
        dice = new Dice(1000L + run);
        words = 16 + dice.below(run % 4 == 0 ? 385 : 60);
        entries = 2 + dice.below(run % 3 == 0 ? 39 : 9);
        x = new CountedObjects(words, entries);
        model = new Model(words, entries);
    }

    private void play() {
        for (int call = 1; call <= CALLS; call++) {
            String got;
            String due;
            int kind = dice.below(100);
            if (kind < 30) {
                int r = register();
                int type = value();
                int n = dice.below(20) == 0 ? dice.below(24) - 1 : dice.below(6);
                what = "instantiate(" + r + ", " + type + ", " + n + ")";
                due = dueOfInstantiate(r, type, n);
                got = answer(() -> x.instantiate(r, type, n));
            } else if (kind < 55) {
                int r = register();
                int v = value();
                what = "set(" + r + ", " + v + ")";
                due = isNoRegister(r) ? Check.INDEX : !model.isValue(v) ? Check.ARGUMENT : "" + model.set(r, v);
                got = answer(() -> x.set(r, v));
            } else if (kind < 90) {
                int o = value();
                int k = dice.below(6) - (dice.below(10) == 0 ? 1 : 0);
                int v = value();
                what = "store(" + o + ", " + k + ", " + v + ")";
                due = dueOfStore(o, k, v);
                got = answer(() -> x.store(o, k, v));
            } else if (kind < 96) {
                int a = value();
                int b = value();
                what = "become(" + a + ", " + b + ")";
                due = dueOfBecome(a, b);
                got = answer(() -> become(a, b));
            } else if (kind < 98) {
                what = "compact()";
                due = "" + model.compact();
                got = answer(x::compact);
            } else {
                what = "collect()";
                due = "" + model.collect(0);
                got = answer(x::collect);
            }
            String where = words + " words, " + entries + " entries, call " + call + ": " + what;
            check.due(where, got, due);
            check.due(where + ", the state behind it", Picture.of(x), model.picture());
            check.due(where + ", the model's fault", model.fault(), "");
        }
    }

    private static boolean isNoRegister(int r) {
        return r < 0 || r > 7;
    }

    private int register() {
        return dice.below(40) == 0 ? dice.below(12) - 2 : dice.below(8);
    }

    /** Mostly an object, now and then nothing, a number or no value. */
    private int value() {
        int kind = dice.below(20);
        if (kind == 0) {
            return dice.anyInt();
        }
        if (kind < 4) {
            return 0;
        }
        if (kind < 5) {
            return 2 * dice.below(100) - 99;
        }
        int o = 0;
        for (int tries = 0; tries < 8 && !model.isObject(o); tries++) {
            o = 2 * dice.below(entries + 1);
        }
        return o;
    }

    private int become(int a, int b) {
        x.become(a, b);
        return 0;
    }

    private String dueOfInstantiate(int r, int type, int n) {
        if (isNoRegister(r)) {
            return Check.INDEX;
        }
        if (!model.isValue(type) || n < 0 || n > 20) {
            return Check.ARGUMENT;
        }
        int made = model.instantiate(r, type, n);
        return made == Model.NO_ROOM ? Check.STATE : "" + made;
    }

    private String dueOfStore(int o, int k, int v) {
        if (!model.isObject(o)) {
            return Check.ARGUMENT;
        }
        if (k < 0 || k >= model.fields(o)) {
            return Check.INDEX;
        }
        return model.isValue(v) ? "" + model.store(o, k, v) : Check.ARGUMENT;
    }

    private String dueOfBecome(int a, int b) {
        if (!model.isObject(a) || !model.isObject(b)) {
            return Check.ARGUMENT;
        }
        model.become(a, b);
        return "0";
    }

    /** Told by its seed alone, so that each time the same calls are made. */
    private static final class Dice {
        private long state;

        Dice(long seed) {
            state = seed * 0x9E3779B97F4A7C15L;
        }

        int anyInt() {
            state = state * 6364136223846793005L + 1442695040888963407L;
            return (int) (state >>> 32);
        }

        int below(int bound) {
            return Math.floorMod(anyInt() >>> 3, bound);
        }
    }

    private interface Answering {
        int make();
    }

    private static String answer(Answering call) {
        try {
            return "" + call.make();
        } catch (RuntimeException e) {
            return e.getClass().getSimpleName();
        }
    }
}
