/** Promises 12 to 17; what stands in quotes is the document's. */
public final class AskingTest {
    private static final Check check = new Check();

    public static void main(String[] args) {
        objectsAreTold();
        firstAndLastEntry();
        noObjectsAreTold();
        entriesBeyondTheLast();
        countsFromNothingToFull();
        chunksOfJustSoManyWords();
        allChunksForNothing();
        noSuchChunks();
        smallestAndGreatestChunk();
        freeFromNoneToAll();
        objectsFromNoneToAll();
        askingChangesNothing();
        check.end();
    }

    private static CountedObjects withTwo() {
        CountedObjects x = new CountedObjects(40, 4);
        x.instantiate(0, 0, 1);
        x.instantiate(1, 2, 4);
        x.instantiate(2, 0, 0);
        x.set(2, 0);
        return x;
    }

    private static void objectsAreTold() {
        CountedObjects x = withTwo();
        check.due("exists(2)", x.exists(2), true);
        check.due("exists(4)", x.exists(4), true);
        check.due("count(2)", x.count(2), 2);
        check.due("count(4)", x.count(4), 1);
        check.due("address(2)", x.address(2), 0);
        check.due("address(4)", x.address(4), 3);
    }

    private static void firstAndLastEntry() {
        CountedObjects x = new CountedObjects(400, 40);
        for (int i = 0; i < 40; i++) {
            check.due("exists()", x.exists(2 * i + 2), false);
            Memory.made(x, 10);
            check.due("exists()", x.exists(2 * i + 2), true);
        }
        check.due("address(2)", x.address(2), 0);
        check.due("address(80)", x.address(80), 390);
        check.due("count(2)", x.count(2), 1);
        check.due("count(80)", x.count(80), 1);
    }

    private static void askNone(CountedObjects x, int o) {
        check.due("exists(" + o + ")", x.exists(o), false);
        check.due("count(" + o + ")", x.count(o), 0);
        check.due("address(" + o + ")", x.address(o), -1);
    }

    /** "Whether a value is that of an object", "0 when there is none", "-1 when there is none" */
    private static void noObjectsAreTold() {
        CountedObjects x = withTwo();
        for (int o : Memory.NO_OBJECTS) {
            askNone(x, o);
        }
        askNone(x, 6);
        askNone(x, 8);
        askNone(x, 5);
        askNone(new CountedObjects(40, 4), 2);
    }

    private static void entriesBeyondTheLast() {
        CountedObjects few = Memory.row(40, 2, 2, 2);
        check.due("exists(4)", few.exists(4), true);
        askNone(few, 6);
        CountedObjects many = new CountedObjects(400, 40);
        for (int i = 0; i < 40; i++) {
            Memory.made(many, 2);
        }
        askNone(many, 82);
        askNone(many, 84);
        askNone(many, 0);
        askNone(many, -2);
    }

    private static void countsFromNothingToFull() {
        CountedObjects x = Memory.row(40, 4, 2);
        for (int r = 1; r < 8; r++) {
            check.due("count(2)", x.count(2), r);
            x.set(r, 2);
        }
        check.due("count(2) in eight registers", x.count(2), 7);
    }

    /** Of 40 words, 9 are in objects; chunks of 4, 4, 5 and 18 words are free. */
    private static CountedObjects withChunks() {
        CountedObjects x = Memory.row(40, 9, 4, 4, 4, 5, 5);
        Memory.clear(x, 0, 2, 3);
        return x;
    }

    /** "How many free chunks there are of just so many words" */
    private static void chunksOfJustSoManyWords() {
        CountedObjects x = withChunks();
        check.due("chunks(4)", x.chunks(4), 2);
        check.due("chunks(5)", x.chunks(5), 1);
        check.due("chunks(18)", x.chunks(18), 1);
        int[] none = {1, 2, 3, 6, 8, 9, 17, 19, 31, 39, 40};
        for (int words : none) {
            check.due("chunks(" + words + ")", x.chunks(words), 0);
        }
    }

    /** "all of them for 0" */
    private static void allChunksForNothing() {
        check.due("of four", withChunks().chunks(0), 4);
        check.due("of one", new CountedObjects(16, 2).chunks(0), 1);
        check.due("of none", Memory.row(16, 2, 16).chunks(0), 0);
    }

    private static void noSuchChunks() {
        CountedObjects x = withChunks();
        int[] none = {-1, -4, -5, -18, 41, 400, 401, Integer.MIN_VALUE, Integer.MAX_VALUE};
        for (int words : none) {
            check.due("chunks(" + words + ")", x.chunks(words), 0);
        }
    }

    private static void smallestAndGreatestChunk() {
        check.due("one word", Memory.row(16, 2, 15).chunks(1), 1);
        check.due("all words", new CountedObjects(400, 2).chunks(400), 1);
    }

    private static void freeFromNoneToAll() {
        CountedObjects x = Memory.row(16, 2, 10, 5);
        check.due("one", x.free(), 1);
        x.set(0, 0);
        check.due("eleven in two chunks", x.free(), 11);
        x.set(1, 0);
        check.due("all in three", x.free(), 16);
        check.due("none", Memory.row(16, 2, 10, 6).free(), 0);
        check.due("the most", new CountedObjects(400, 2).free(), 400);
    }

    private static void objectsFromNoneToAll() {
        CountedObjects x = new CountedObjects(400, 40);
        for (int i = 0; i < 40; i++) {
            check.due("objects()", x.objects(), i);
            Memory.made(x, 2);
        }
        check.due("all", x.objects(), 40);
        x.set(7, 0);
        check.due("none", x.objects(), 0);
    }

    private static void askingChangesNothing() {
        CountedObjects x = withChunks();
        x.exists(4);
        x.count(4);
        x.address(4);
        x.chunks(4);
        x.chunks(0);
        x.free();
        x.objects();
        x.register(1);
        x.type(4);
        x.fields(4);
        x.fetch(4, 0);
        check.dueState("asking", x, Picture.of(withChunks()));
    }
}
