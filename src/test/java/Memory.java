/** Memories that several tests begin with. */
final class Memory {
    /** What is no object in a memory of less than 40 entries, whatever is in it. */
    static final int[] NO_OBJECTS = {0, 1, 3, -1, -3, -2, -4, 80, 82, Integer.MIN_VALUE,
        Integer.MIN_VALUE + 1, Integer.MIN_VALUE + 2, Integer.MAX_VALUE, Integer.MAX_VALUE - 1};

    /** What is no value there: of those above, what is neither nothing nor a number. */
    static final int[] NO_VALUES = {-2, -4, 80, 82, Integer.MIN_VALUE, Integer.MIN_VALUE + 2,
        Integer.MAX_VALUE - 1};

    static final int[] NO_REGISTERS = {-1, 8, -8, 16, Integer.MIN_VALUE, Integer.MAX_VALUE};

    private Memory() {
    }

    /** Objects with the given numbers of words, side by side, 2 in register 0, 4 in register 1 and so on. */
    static CountedObjects row(int words, int entries, int... sizes) {
        CountedObjects x = new CountedObjects(words, entries);
        for (int r = 0; r < sizes.length; r++) {
            x.instantiate(r, 0, sizes[r] - 2);
        }
        return x;
    }

    static void clear(CountedObjects x, int... registers) {
        for (int r : registers) {
            x.set(r, 0);
        }
    }

    /** Nothing leads to what is in the register then, but it refers to itself and is not let go. */
    static void loosen(CountedObjects x, int r) {
        int o = x.register(r);
        x.store(o, 0, o);
        x.set(r, 0);
    }

    /** Nothing refers to what is in the register then, but its count is full; it has six fields or more. */
    static void forget(CountedObjects x, int r) {
        int o = x.register(r);
        for (int k = 0; k < 6; k++) {
            x.store(o, k, o);
        }
        for (int k = 0; k < 6; k++) {
            x.store(o, k, 0);
        }
        x.set(r, 0);
    }

    /** In the last register, each time with the one before as its class, so that all stay. */
    static int made(CountedObjects x, int words) {
        return x.instantiate(7, x.register(7), words - 2);
    }

    static int placed(CountedObjects x, int words) {
        return x.address(made(x, words));
    }
}
