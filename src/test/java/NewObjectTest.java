/** Promise 1; what stands in quotes is the document's. */
public final class NewObjectTest {
    private static final Check check = new Check();

    public static void main(String[] args) {
        wordsAreBounded();
        fewestWordsCanAllBeUsed();
        mostWordsCanAllBeUsed();
        entriesAreBounded();
        bothAreBoundedAtOnce();
        registersHaveNothing();
        allWordsAreOneChunk();
        check.end();
    }

    /** "W is words, but at least 16 and at most 400" */
    private static void wordsAreBounded() {
        int[] asked = {Integer.MIN_VALUE, -16, -1, 0, 15, 16, 17, 399, 400, 401, Integer.MAX_VALUE};
        int[] due = {16, 16, 16, 16, 16, 16, 17, 399, 400, 400, 400};
        for (int i = 0; i < asked.length; i++) {
            CountedObjects x = new CountedObjects(asked[i], 5);
            check.due("free() of " + asked[i] + " words", x.free(), due[i]);
            check.due("chunks(" + due[i] + ") of " + asked[i] + " words", x.chunks(due[i]), 1);
        }
    }

    /** "WORDS 0 .. W - 1 belong to objects or to FREE CHUNKS" */
    private static void fewestWordsCanAllBeUsed() {
        CountedObjects x = new CountedObjects(0, 0);
        check.dueThrow("17 words of 16", x, Check.STATE, y -> y.instantiate(0, 0, 15));
        check.due("16 words of 16", x.instantiate(0, 0, 14), 2);
        check.due("address(2)", x.address(2), 0);
        check.due("free()", x.free(), 0);
        check.due("chunks(0)", x.chunks(0), 0);
    }

    private static void mostWordsCanAllBeUsed() {
        CountedObjects x = new CountedObjects(1000, 1000);
        for (int i = 0; i < 18; i++) {
            check.due("22 words", Memory.placed(x, 22), 22 * i);
        }
        check.due("the last four words", Memory.placed(x, 4), 396);
        check.due("free()", x.free(), 0);
        check.dueThrow("no word is free", x, Check.STATE, y -> y.instantiate(0, 0, 0));
    }

    /** "E is entries, but at least 2 and at most 40" */
    private static void entriesAreBounded() {
        int[] asked = {Integer.MIN_VALUE, -2, 0, 1, 2, 3, 39, 40, 41, Integer.MAX_VALUE};
        int[] due = {2, 2, 2, 2, 2, 3, 39, 40, 40, 40};
        for (int i = 0; i < asked.length; i++) {
            CountedObjects x = new CountedObjects(400, asked[i]);
            for (int entry = 1; entry <= due[i]; entry++) {
                check.due("entry " + entry + " of " + asked[i], Memory.made(x, 2), 2 * entry);
            }
            check.dueThrow("one more than " + due[i], x, Check.STATE, y -> Memory.made(y, 2));
            check.due("objects()", x.objects(), due[i]);
        }
    }

    private static void bothAreBoundedAtOnce() {
        check.due("the least", made(Integer.MIN_VALUE, Integer.MIN_VALUE), "16 2");
        check.due("the most", made(Integer.MAX_VALUE, Integer.MAX_VALUE), "400 40");
        check.due("few words, many entries", made(-5, 400), "16 8");
        check.due("many words, few entries", made(400, -5), "400 2");
    }

    /** How many words it has, and how many objects of two words. */
    private static String made(int words, int entries) {
        CountedObjects x = new CountedObjects(words, entries);
        int had = x.free();
        int most = Math.min(40, had / 2);
        for (int i = 0; i < most && x.objects() == i; i++) {
            try {
                Memory.made(x, 2);
            } catch (IllegalStateException e) {
                break;
            }
        }
        return had + " " + x.objects();
    }

    /** "All registers have 0." */
    private static void registersHaveNothing() {
        CountedObjects x = new CountedObjects(30, 4);
        for (int r = 0; r < 8; r++) {
            check.due("register(" + r + ")", x.register(r), 0);
        }
    }

    /** "At first all words are one." */
    private static void allWordsAreOneChunk() {
        check.dueState("a new object", new CountedObjects(30, 4),
                "0 0 0 0 0 0 0 0 ; chunks 1*0 1*30; free 30, objects 0");
        check.dueState("the greatest", new CountedObjects(400, 40),
                "0 0 0 0 0 0 0 0 ; chunks 1*0 1*400; free 400, objects 0");
    }
}
