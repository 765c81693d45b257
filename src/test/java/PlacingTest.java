/** The terms: free chunks, placing and its choice. Promises 2, 15 and 16 rest on them. */
public final class PlacingTest {
    private static final Check check = new Check();

    public static void main(String[] args) {
        youngestOfTheSize();
        leastOfThoseWithMore();
        youngestOfTheLeast();
        restIsYoungest();
        chunksDoNotJoin();
        oneWordIsAChunk();
        check.end();
    }

    /** Objects with the given numbers of words in the registers 0, 1 and so on, side by side. */
    private static CountedObjects row(int words, int... sizes) {
        CountedObjects x = new CountedObjects(words, 20);
        for (int r = 0; r < sizes.length; r++) {
            x.instantiate(r, 0, sizes[r] - 2);
        }
        return x;
    }

    private static void letGo(CountedObjects x, int... registers) {
        for (int r : registers) {
            x.set(r, 0);
        }
    }

    private static int placed(CountedObjects x, int words) {
        return x.address(x.instantiate(7, x.register(7), words - 2));
    }

    private static void youngestOfTheSize() {
        CountedObjects x = row(40, 4, 2, 4, 2, 4, 3);
        letGo(x, 2, 4, 0);
        check.due("youngest", placed(x, 4), 0);
        check.due("then", placed(x, 4), 12);
        check.due("oldest", placed(x, 4), 6);
        check.due("then of the rest", placed(x, 4), 19);
    }

    private static void leastOfThoseWithMore() {
        CountedObjects x = row(60, 9, 2, 5, 2, 7, 2);
        letGo(x, 0, 2, 4);
        check.due("five words", placed(x, 4), 11);
        check.due("chunks(1)", x.chunks(1), 1);
        check.due("seven words", placed(x, 4), 18);
        check.due("chunks(3)", x.chunks(3), 1);
        check.due("the three left over", placed(x, 3), 22);
        check.due("nine words", placed(x, 4), 0);
    }

    private static void youngestOfTheLeast() {
        CountedObjects x = row(60, 6, 2, 8, 2, 6, 2, 6);
        letGo(x, 4, 0, 6, 2);
        check.due("youngest of six", placed(x, 5), 26);
        check.due("next", placed(x, 5), 0);
        check.due("oldest", placed(x, 5), 18);
        check.due("eight", placed(x, 5), 8);
    }

    private static void restIsYoungest() {
        CountedObjects x = row(30, 7, 2, 3, 2, 16);
        letGo(x, 0, 2);
        check.due("first of seven", placed(x, 4), 0);
        check.due("chunks(3)", x.chunks(3), 2);
        check.due("the rest is younger than the chunk of three", placed(x, 3), 4);
    }

    private static void chunksDoNotJoin() {
        CountedObjects x = row(16, 4, 4, 4, 4);
        letGo(x, 0, 1);
        check.due("chunks(4)", x.chunks(4), 2);
        check.due("chunks(8)", x.chunks(8), 0);
        check.due("free()", x.free(), 8);
        check.due("by compacting", placed(x, 8), 8);
        check.due("address(6)", x.address(6), 0);
        check.due("address(8)", x.address(8), 4);
        check.due("no rest", x.chunks(0), 0);
    }

    private static void oneWordIsAChunk() {
        CountedObjects x = row(16, 15);
        check.due("chunks(1)", x.chunks(1), 1);
        check.due("free()", x.free(), 1);
        check.dueThrowAndNoChange("two words", x, Check.STATE, () -> x.instantiate(1, 0, 0));
    }
}
