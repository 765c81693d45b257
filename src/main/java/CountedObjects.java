import java.util.Arrays;

/** A memory of objects that are told by numbers; the document's promises say what each call does. */
public final class CountedObjects {
    private static final int LEAST_WORDS = 16;
    private static final int MOST_WORDS = 400;
    private static final int LEAST_ENTRIES = 2;
    private static final int MOST_ENTRIES = 40;
    private static final int MOST_FIELDS = 20;
    private static final int REGISTERS = 8;
    private static final int FULL = 7;

    // An object's words: how many fields it has, its class, and then its fields.
    private static final int CLASS_WORD = 1;
    private static final int HEAD_WORDS = 2;

    private static final int NOWHERE = -1;
    private static final int NO_ENTRY = 0;
    private static final int NOTHING = 0;

    private final int[] words;
    private final int[] addresses;
    private final int[] counts;
    private final int[] registers;
    private final FreeChunks freeChunks;

    // Made once, so that collecting makes no rows of its own.
    private final boolean[] isReached;
    private final int[] reachedEntries;
    private int reachedHeld;

    public CountedObjects(int words, int entries) {
        int wordsHeld = Math.max(LEAST_WORDS, Math.min(MOST_WORDS, words));
        int entriesHeld = Math.max(LEAST_ENTRIES, Math.min(MOST_ENTRIES, entries));
        this.words = new int[wordsHeld];
        this.addresses = new int[entriesHeld + 1];
        this.counts = new int[entriesHeld + 1];
        this.registers = new int[REGISTERS];
        this.freeChunks = new FreeChunks(wordsHeld);
        this.isReached = new boolean[entriesHeld + 1];
        this.reachedEntries = new int[entriesHeld];
        this.reachedHeld = 0;
        Arrays.fill(this.addresses, NOWHERE);
    }

    public int instantiate(int r, int type, int n)
            throws IndexOutOfBoundsException, IllegalArgumentException, IllegalStateException {
        if (!isRegister(r)) {
            throw new IndexOutOfBoundsException();
        }
        if (!isValue(type) || n < 0 || n > MOST_FIELDS) {
            throw new IllegalArgumentException();
        }
        int start = findRoom(n + HEAD_WORDS, type);
        // Asked for only now: collecting may have freed a lesser entry.
        int entry = leastFreeEntry();
        if (start == NOWHERE || entry == NO_ENTRY) {
            throw new IllegalStateException();
        }
        makeObject(entry, start, type, n);
        replaceRegister(r, 2 * entry);
        return 2 * entry;
    }

    public int set(int r, int v) throws IndexOutOfBoundsException, IllegalArgumentException {
        if (!isRegister(r)) {
            throw new IndexOutOfBoundsException();
        }
        if (!isValue(v)) {
            throw new IllegalArgumentException();
        }
        return replaceRegister(r, v);
    }

    public int register(int r) throws IndexOutOfBoundsException {
        if (!isRegister(r)) {
            throw new IndexOutOfBoundsException();
        }
        return registers[r];
    }

    public int fetch(int o, int k) throws IllegalArgumentException, IndexOutOfBoundsException {
        if (!isObject(o)) {
            throw new IllegalArgumentException();
        }
        if (!hasField(o, k)) {
            throw new IndexOutOfBoundsException();
        }
        return words[fieldWord(o, k)];
    }

    public int store(int o, int k, int v) throws IllegalArgumentException, IndexOutOfBoundsException {
        if (!isObject(o)) {
            throw new IllegalArgumentException();
        }
        if (!hasField(o, k)) {
            throw new IndexOutOfBoundsException();
        }
        if (!isValue(v)) {
            throw new IllegalArgumentException();
        }
        int place = fieldWord(o, k);
        int old = words[place];
        addReference(v);
        // Written before the old one goes: letting it go may let o go too, with its new field.
        words[place] = v;
        dropReference(old, 0);
        return old;
    }

    public int type(int o) throws IllegalArgumentException {
        if (!isObject(o)) {
            throw new IllegalArgumentException();
        }
        return words[addresses[o / 2] + CLASS_WORD];
    }

    public int fields(int o) throws IllegalArgumentException {
        if (!isObject(o)) {
            throw new IllegalArgumentException();
        }
        return words[addresses[o / 2]];
    }

    public void become(int a, int b) throws IllegalArgumentException {
        if (!isObject(a) || !isObject(b)) {
            throw new IllegalArgumentException();
        }
        int addressOfA = addresses[a / 2];
        addresses[a / 2] = addresses[b / 2];
        addresses[b / 2] = addressOfA;
    }

    public int collect() {
        return takeUnreached(NOTHING);
    }

    public int compact() {
        return moveTogether();
    }

    public boolean exists(int o) {
        return isObject(o);
    }

    public int count(int o) {
        return isObject(o) ? counts[o / 2] : 0;
    }

    public int address(int o) {
        return isObject(o) ? addresses[o / 2] : NOWHERE;
    }

    public int chunks(int words) {
        return words == 0 ? freeChunks.held : freeChunks.ofSize(words);
    }

    public int free() {
        return freeChunks.allWords();
    }

    public int objects() {
        int used = 0;
        for (int entry = 1; entry < addresses.length; entry++) {
            if (isUsed(entry)) {
                used++;
            }
        }
        return used;
    }

    private static boolean isRegister(int r) {
        return r >= 0 && r < REGISTERS;
    }

    private boolean isUsed(int entry) {
        return addresses[entry] != NOWHERE;
    }

    private boolean isObject(int v) {
        return v > 0 && v % 2 == 0 && v / 2 < addresses.length && isUsed(v / 2);
    }

    private boolean isValue(int v) {
        return v == NOTHING || v % 2 != 0 || isObject(v);
    }

    private boolean hasField(int o, int k) {
        return k >= 0 && k < words[addresses[o / 2]];
    }

    private int fieldWord(int o, int k) {
        return addresses[o / 2] + HEAD_WORDS + k;
    }

    private int wordsOf(int entry) {
        return words[addresses[entry]] + HEAD_WORDS;
    }

    private int leastFreeEntry() {
        for (int entry = 1; entry < addresses.length; entry++) {
            if (!isUsed(entry)) {
                return entry;
            }
        }
        return NO_ENTRY;
    }

    private void makeObject(int entry, int start, int type, int n) {
        addReference(type);
        addresses[entry] = start;
        counts[entry] = 0;
        words[start] = n;
        words[start + CLASS_WORD] = type;
        for (int k = 0; k < n; k++) {
            words[start + HEAD_WORDS + k] = NOTHING;
        }
    }

    private int replaceRegister(int r, int v) {
        int old = registers[r];
        addReference(v);
        registers[r] = v;
        dropReference(old, 0);
        return old;
    }

    private void addReference(int v) {
        if (isObject(v) && counts[v / 2] < FULL) {
            counts[v / 2]++;
        }
    }

    private void dropReference(int v, int depth) {
        if (!isObject(v) || counts[v / 2] == FULL) {
            return;
        }
        counts[v / 2]--;
        if (counts[v / 2] == 0) {
            letGo(v / 2, depth);
        }
    }

    private void letGo(int entry, int depth) {
        // Never so deep: each level holds an entry of its own.
        if (depth >= MOST_ENTRIES) {
            return;
        }
        int end = addresses[entry] + wordsOf(entry);
        for (int place = addresses[entry] + CLASS_WORD; place < end; place++) {
            dropReference(words[place], depth + 1);
        }
        freeEntry(entry);
    }

    private void freeEntry(int entry) {
        freeChunks.add(addresses[entry], wordsOf(entry));
        addresses[entry] = NOWHERE;
    }

    /** Answers where the words of a new object can lie, or NOWHERE; collects when it must. */
    private int findRoom(int size, int type) {
        boolean collected = false;
        if (leastFreeEntry() == NO_ENTRY) {
            takeUnreached(type);
            collected = true;
            if (leastFreeEntry() == NO_ENTRY) {
                return NOWHERE;
            }
        }
        int start = place(size);
        if (start == NOWHERE && !collected) {
            takeUnreached(type);
            start = place(size);
        }
        return start;
    }

    private int place(int size) {
        int start = freeChunks.take(size);
        if (start == NOWHERE && freeChunks.allWords() >= size) {
            moveTogether();
            start = freeChunks.take(size);
        }
        return start;
    }

    private int moveTogether() {
        int moved = 0;
        int next = 0;
        for (int round = 1; round < addresses.length; round++) {
            int entry = lowestFrom(next);
            if (entry == NO_ENTRY) {
                break;
            }
            int size = wordsOf(entry);
            if (addresses[entry] != next) {
                System.arraycopy(words, addresses[entry], words, next, size);
                addresses[entry] = next;
                moved++;
            }
            next += size;
        }
        freeChunks.clear();
        if (next < words.length) {
            freeChunks.add(next, words.length - next);
        }
        return moved;
    }

    /** Answers the object with the least address that is not below the given one. */
    private int lowestFrom(int least) {
        int lowest = NO_ENTRY;
        for (int entry = 1; entry < addresses.length; entry++) {
            boolean stands = isUsed(entry) && addresses[entry] >= least;
            if (stands && (lowest == NO_ENTRY || addresses[entry] < addresses[lowest])) {
                lowest = entry;
            }
        }
        return lowest;
    }

    /** Collects; extra is looked at as a register is, but is no reference. */
    private int takeUnreached(int extra) {
        findReached(extra);
        int taken = 0;
        for (int entry = 1; entry < addresses.length; entry++) {
            if (isUsed(entry) && !isReached[entry]) {
                freeEntry(entry);
                taken++;
            }
        }
        countAnew();
        return taken;
    }

    private void findReached(int extra) {
        for (int entry = 1; entry < isReached.length; entry++) {
            isReached[entry] = false;
        }
        reachedHeld = 0;
        for (int r = 0; r < REGISTERS; r++) {
            reach(registers[r]);
        }
        reach(extra);
        // Reaching lengthens the row while it is gone through, but no entry comes into it twice.
        for (int i = 0; i < reachedHeld && i < reachedEntries.length; i++) {
            int entry = reachedEntries[i];
            int end = addresses[entry] + wordsOf(entry);
            for (int place = addresses[entry] + CLASS_WORD; place < end; place++) {
                reach(words[place]);
            }
        }
    }

    private void reach(int v) {
        if (isObject(v) && !isReached[v / 2]) {
            isReached[v / 2] = true;
            reachedEntries[reachedHeld] = v / 2;
            reachedHeld++;
        }
    }

    private void countAnew() {
        Arrays.fill(counts, 0);
        for (int r = 0; r < REGISTERS; r++) {
            addReference(registers[r]);
        }
        for (int i = 0; i < reachedHeld; i++) {
            int entry = reachedEntries[i];
            int end = addresses[entry] + wordsOf(entry);
            for (int place = addresses[entry] + CLASS_WORD; place < end; place++) {
                addReference(words[place]);
            }
        }
    }

    /** The free chunks, from the oldest to the youngest. */
    private static final class FreeChunks {
        private final int[] starts;
        private final int[] sizes;
        private int held;

        // A chunk has a word at least, so there are never more chunks than words.
        FreeChunks(int words) {
            starts = new int[words];
            sizes = new int[words];
            sizes[0] = words;
            held = 1;
        }

        void add(int start, int size) {
            starts[held] = start;
            sizes[held] = size;
            held++;
        }

        void clear() {
            held = 0;
        }

        /** Answers the first of the words taken, or NOWHERE when no chunk has so many. */
        int take(int size) {
            int best = bestFor(size);
            if (best == NOWHERE) {
                return NOWHERE;
            }
            int start = starts[best];
            int rest = sizes[best] - size;
            remove(best);
            if (rest > 0) {
                add(start + size, rest);
            }
            return start;
        }

        // From the youngest on, so that among chunks of one size the youngest is kept.
        private int bestFor(int size) {
            int best = NOWHERE;
            for (int i = held - 1; i >= 0; i--) {
                if (sizes[i] >= size && (best == NOWHERE || sizes[i] < sizes[best])) {
                    best = i;
                }
            }
            return best;
        }

        private void remove(int index) {
            held--;
            System.arraycopy(starts, index + 1, starts, index, held - index);
            System.arraycopy(sizes, index + 1, sizes, index, held - index);
        }

        int ofSize(int size) {
            int found = 0;
            for (int i = 0; i < held; i++) {
                if (sizes[i] == size) {
                    found++;
                }
            }
            return found;
        }

        int allWords() {
            int sum = 0;
            for (int i = 0; i < held; i++) {
                sum += sizes[i];
            }
            return sum;
        }
    }
}
