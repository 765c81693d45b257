/** Makes up calls, wrong ones among them, and makes each on the model at once, to tell what it must answer. */
final class Caller {
    private final Dice dice;
    private final int words;
    private final int entries;
    final Model model;

    Caller(Dice dice, int words, int entries) {
        this.dice = dice;
        this.words = words;
        this.entries = entries;
        model = new Model(words, entries);
    }

    CountedObjects newObject() {
        return new CountedObjects(words, entries);
    }

    /** A call that may change the state. */
    Step change() {
        int kind = dice.below(100);
        if (kind < 30) {
            return instantiate(register(), value(), dice.once(20) ? dice.below(24) - 1 : dice.below(6));
        }
        if (kind < 55) {
            return set(register(), value());
        }
        if (kind < 90) {
            return store(value(), field(), value());
        }
        if (kind < 96) {
            return become(value(), value());
        }
        return kind < 98
                ? new Step("compact()", "" + model.compact(), CountedObjects::compact)
                : new Step("collect()", "" + model.collect(0), CountedObjects::collect);
    }

    /** A call that only asks. */
    Step ask() {
        int o = value();
        switch (dice.below(10)) {
            case 0:
                return register(register());
            case 1:
                return fetch(o, field());
            case 2:
                return new Step("type(" + o + ")", ofObject(o) ? "" + model.type(o) : Check.ARGUMENT, x -> x.type(o));
            case 3:
                return new Step("fields(" + o + ")", ofObject(o) ? "" + model.fields(o) : Check.ARGUMENT,
                        x -> x.fields(o));
            case 4:
                return new Step("exists(" + o + ")", "" + ofObject(o), x -> x.exists(o));
            case 5:
                return new Step("count(" + o + ")", "" + model.count(o), x -> x.count(o));
            case 6:
                return new Step("address(" + o + ")", "" + model.address(o), x -> x.address(o));
            case 7:
                int size = dice.once(20) ? dice.anyInt() : dice.below(12);
                return new Step("chunks(" + size + ")", "" + model.chunks(size), x -> x.chunks(size));
            case 8:
                return new Step("free()", "" + model.free(), CountedObjects::free);
            default:
                return new Step("objects()", "" + model.objects(), CountedObjects::objects);
        }
    }

    private boolean ofObject(int o) {
        return model.isObject(o);
    }

    private static boolean isNoRegister(int r) {
        return r < 0 || r > 7;
    }

    private boolean isNoField(int o, int k) {
        return k < 0 || k >= model.fields(o);
    }

    private int register() {
        return dice.once(40) ? dice.below(12) - 2 : dice.below(8);
    }

    private int field() {
        return dice.below(6) - (dice.once(10) ? 1 : 0);
    }

    /** Mostly an object, now and then nothing, a number or no value. */
    private int value() {
        int kind = dice.below(20);
        if (kind == 0) {
            return dice.anyInt();
        }
        if (kind < 4) {
            return 0;
        }
        if (kind < 5) {
            return 2 * dice.below(100) - 99;
        }
        int o = 0;
        for (int tries = 0; tries < 8 && !model.isObject(o); tries++) {
            o = 2 * dice.below(entries + 1);
        }
        return o;
    }

    private Step instantiate(int r, int type, int n) {
        String told = "instantiate(" + r + ", " + type + ", " + n + ")";
        return new Step(told, dueOfInstantiate(r, type, n), x -> x.instantiate(r, type, n));
    }

    private String dueOfInstantiate(int r, int type, int n) {
        if (isNoRegister(r)) {
            return Check.INDEX;
        }
        if (!model.isValue(type) || n < 0 || n > 20) {
            return Check.ARGUMENT;
        }
        int made = model.instantiate(r, type, n);
        return made == Model.NO_ROOM ? Check.STATE : "" + made;
    }

    private Step set(int r, int v) {
        String due = isNoRegister(r) ? Check.INDEX : !model.isValue(v) ? Check.ARGUMENT : "" + model.set(r, v);
        return new Step("set(" + r + ", " + v + ")", due, x -> x.set(r, v));
    }

    private Step register(int r) {
        String due = isNoRegister(r) ? Check.INDEX : "" + model.register(r);
        return new Step("register(" + r + ")", due, x -> x.register(r));
    }

    private Step fetch(int o, int k) {
        String due = !ofObject(o) ? Check.ARGUMENT : isNoField(o, k) ? Check.INDEX : "" + model.fetch(o, k);
        return new Step("fetch(" + o + ", " + k + ")", due, x -> x.fetch(o, k));
    }

    private Step store(int o, int k, int v) {
        String told = "store(" + o + ", " + k + ", " + v + ")";
        return new Step(told, dueOfStore(o, k, v), x -> x.store(o, k, v));
    }

    private String dueOfStore(int o, int k, int v) {
        if (!ofObject(o)) {
            return Check.ARGUMENT;
        }
        if (isNoField(o, k)) {
            return Check.INDEX;
        }
        return model.isValue(v) ? "" + model.store(o, k, v) : Check.ARGUMENT;
    }

    private Step become(int a, int b) {
        String due = "done";
        if (ofObject(a) && ofObject(b)) {
            model.become(a, b);
        } else {
            due = Check.ARGUMENT;
        }
        return new Step("become(" + a + ", " + b + ")", due, x -> {
            x.become(a, b);
            return "done";
        });
    }
}
