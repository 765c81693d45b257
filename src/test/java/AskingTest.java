/** Promises 12 to 17. */
public final class AskingTest {
    private static final Check check = new Check();

    public static void main(String[] args) {
        ofObjects();
        ofNoObjects();
        ofChunks();
        ofAll();
        check.end();
    }

    private static CountedObjects withTwo() {
        CountedObjects x = new CountedObjects(40, 3);
        x.instantiate(0, 0, 1);
        x.instantiate(1, 2, 4);
        return x;
    }

    private static void ofObjects() {
        CountedObjects x = withTwo();
        check.due("exists(2)", x.exists(2), true);
        check.due("exists(4)", x.exists(4), true);
        check.due("count(2)", x.count(2), 2);
        check.due("count(4)", x.count(4), 1);
        check.due("address(2)", x.address(2), 0);
        check.due("address(4)", x.address(4), 3);
    }

    private static void ofNoObjects() {
        CountedObjects x = withTwo();
        x.instantiate(2, 0, 0);
        x.set(2, 0);
        int[] noObjects = {0, 1, 3, 5, -1, -2, -4, 6, 7, 8, 9, 80, 82, 84,
            Integer.MIN_VALUE, Integer.MIN_VALUE + 2, Integer.MAX_VALUE, Integer.MAX_VALUE - 1};
        for (int o : noObjects) {
            check.due("exists(" + o + ")", x.exists(o), false);
            check.due("count(" + o + ")", x.count(o), 0);
            check.due("address(" + o + ")", x.address(o), -1);
        }
    }

    private static void ofChunks() {
        CountedObjects x = new CountedObjects(40, 9);
        for (int r = 0; r < 5; r++) {
            x.instantiate(r, 0, r < 3 ? 2 : 3);
        }
        x.set(0, 0);
        x.set(2, 0);
        x.set(3, 0);
        check.due("chunks(0)", x.chunks(0), 4);
        check.due("chunks(4)", x.chunks(4), 2);
        check.due("chunks(5)", x.chunks(5), 1);
        check.due("chunks(18)", x.chunks(18), 1);
        int[] none = {1, 2, 3, 6, 17, 19, 40, 41, -1, -4, Integer.MIN_VALUE, Integer.MAX_VALUE};
        for (int words : none) {
            check.due("chunks(" + words + ")", x.chunks(words), 0);
        }
        check.due("free()", x.free(), 31);
    }

    private static void ofAll() {
        CountedObjects x = withTwo();
        check.due("free()", x.free(), 31);
        check.due("objects()", x.objects(), 2);
        x.set(0, 0);
        check.due("objects(), 2 is a class yet", x.objects(), 2);
        x.set(1, 0);
        check.due("free()", x.free(), 40);
        check.due("objects()", x.objects(), 0);
    }
}
