/** The terms: free chunks and TO PLACE. Promises 2, 15 and 16 rest on them. What stands in quotes is the document's. */
public final class PlacingTest {
    private static final Check check = new Check();

    public static void main(String[] args) {
        youngestOfTheSize();
        oldOneOfTheSizeBeforeYoungerOnesWithMore();
        leastOfThoseWithMore();
        oldLeastBeforeYoungerOnes();
        youngestOfTheLeast();
        firstWordsAreTaken();
        restOfOneWord();
        noRest();
        restIsYoungest();
        chunksSideBySideDoNotJoin();
        restDoesNotJoin();
        oneWordIsAChunkThatHoldsNone();
        mostChunks();
        compactsOnlyWhenNoChunkHasSoMany();
        compactsForJustAllFreeWords();
        doesNotCompactForOneWordMore();
        placedAsBeforeWhenCompacted();
        refusedCallsLeaveTheAges();
        check.end();
    }

    /** "the youngest free chunk of s words" */
    private static void youngestOfTheSize() {
        CountedObjects x = Memory.row(40, 20, 4, 2, 4, 2, 4, 3);
        Memory.clear(x, 2, 4, 0);
        check.due("youngest", Memory.placed(x, 4), 0);
        check.due("then", Memory.placed(x, 4), 12);
        check.due("oldest", Memory.placed(x, 4), 6);
        check.due("then of the rest", Memory.placed(x, 4), 19);
    }

    private static void oldOneOfTheSizeBeforeYoungerOnesWithMore() {
        CountedObjects x = Memory.row(40, 20, 5, 2, 4, 2, 6, 2);
        Memory.clear(x, 2, 0, 4);
        check.due("of four", Memory.placed(x, 4), 7);
        check.due("chunks(5)", x.chunks(5), 1);
        check.due("chunks(6)", x.chunks(6), 1);
    }

    /** "else, of the least free chunks with more" */
    private static void leastOfThoseWithMore() {
        CountedObjects x = Memory.row(60, 20, 9, 2, 5, 2, 7, 2);
        Memory.clear(x, 2, 0, 4);
        check.due("five words, the oldest", Memory.placed(x, 4), 11);
        check.due("seven words", Memory.placed(x, 4), 18);
        check.due("the three left over", Memory.placed(x, 3), 22);
        check.due("nine words", Memory.placed(x, 4), 0);
        check.due("the five left over", Memory.placed(x, 4), 4);
        check.due("then of the rest", Memory.placed(x, 4), 27);
    }

    private static void oldLeastBeforeYoungerOnes() {
        CountedObjects x = Memory.row(30, 20, 6, 2, 7, 2);
        Memory.clear(x, 0, 2);
        check.due("six words, though seven are younger", Memory.placed(x, 3), 0);
        check.due("the three left over", Memory.placed(x, 3), 3);
        check.due("seven words", Memory.placed(x, 3), 8);
    }

    /** "the youngest" of the least */
    private static void youngestOfTheLeast() {
        CountedObjects x = Memory.row(60, 20, 6, 2, 8, 2, 6, 2, 6);
        Memory.clear(x, 4, 0, 6, 2);
        check.due("youngest of six", Memory.placed(x, 5), 26);
        check.due("next", Memory.placed(x, 5), 0);
        check.due("oldest", Memory.placed(x, 5), 18);
        check.due("eight", Memory.placed(x, 5), 8);
    }

    /** "its first s words, and the rest becomes a free chunk" */
    private static void firstWordsAreTaken() {
        CountedObjects x = Memory.row(30, 20, 2, 9, 19);
        Memory.clear(x, 1);
        check.due("first of nine", Memory.placed(x, 4), 2);
        check.due("chunks(5)", x.chunks(5), 1);
        check.due("chunks(0)", x.chunks(0), 1);
        check.due("the rest", Memory.placed(x, 5), 6);
        check.due("free()", x.free(), 0);
    }

    private static void restOfOneWord() {
        CountedObjects x = Memory.row(16, 20, 15);
        check.due("chunks(1)", x.chunks(1), 1);
        check.due("chunks(0)", x.chunks(0), 1);
        check.due("free()", x.free(), 1);
    }

    private static void noRest() {
        CountedObjects x = Memory.row(16, 20, 16);
        check.due("chunks(0)", x.chunks(0), 0);
        check.due("free()", x.free(), 0);
    }

    /** "A free chunk that came later is YOUNGER." */
    private static void restIsYoungest() {
        CountedObjects x = Memory.row(30, 20, 7, 2, 3, 2, 16);
        Memory.clear(x, 0, 2);
        check.due("first of seven", Memory.placed(x, 4), 0);
        check.due("chunks(3)", x.chunks(3), 2);
        check.due("the rest is younger than the chunk of three", Memory.placed(x, 3), 4);
        check.due("the chunk of three", Memory.placed(x, 3), 9);
    }

    /** "Chunks that lie side by side do not become one." */
    private static void chunksSideBySideDoNotJoin() {
        CountedObjects x = Memory.row(16, 20, 4, 4, 4, 4);
        Memory.clear(x, 0, 1);
        check.due("chunks(4)", x.chunks(4), 2);
        check.due("chunks(8)", x.chunks(8), 0);
        check.due("chunks(0)", x.chunks(0), 2);
        check.due("free()", x.free(), 8);
    }

    private static void restDoesNotJoin() {
        CountedObjects x = Memory.row(20, 20, 6, 4);
        Memory.clear(x, 1, 0);
        check.due("first of six", Memory.placed(x, 5), 0);
        check.due("chunks(1)", x.chunks(1), 1);
        check.due("chunks(4)", x.chunks(4), 1);
        check.due("chunks(10)", x.chunks(10), 1);
    }

    /** "one or more words that lie together" */
    private static void oneWordIsAChunkThatHoldsNone() {
        check.dueRefused("two words of one", () -> Memory.row(17, 20, 16), Check.STATE, x -> x.instantiate(1, 0, 0));
        CountedObjects x = Memory.row(17, 20, 3, 13);
        x.set(0, 0);
        x.instantiate(0, 0, 0);
        check.due("chunks(1)", x.chunks(1), 2);
        check.due("two words of one and one", Memory.placed(x, 2), 15);
        check.due("compacted", x.address(4), 2);
        check.due("free()", x.free(), 0);
    }

    /** Of 16 words: no more are possible, since a chunk of two words is never parted. */
    private static void mostChunks() {
        CountedObjects x = Memory.row(16, 20, 3, 3, 3, 3, 3);
        Memory.clear(x, 0, 1, 2, 3, 4);
        for (int r = 0; r < 5; r++) {
            check.due("two words of three, the youngest", x.address(x.instantiate(r, 0, 0)), 12 - 3 * r);
        }
        Memory.clear(x, 0, 1, 2, 3, 4);
        check.due("chunks(1)", x.chunks(1), 6);
        check.due("chunks(2)", x.chunks(2), 5);
        check.due("chunks(0)", x.chunks(0), 11);
        check.due("the youngest", Memory.placed(x, 2), 0);
        check.due("chunks(0)", x.chunks(0), 10);
        check.due("all that is left", Memory.placed(x, 14), 2);
    }

    private static void compactsOnlyWhenNoChunkHasSoMany() {
        CountedObjects x = Memory.row(20, 20, 4, 4, 4, 4);
        Memory.clear(x, 0, 2);
        check.due("four words of three chunks", Memory.placed(x, 4), 8);
        check.due("address(4)", x.address(4), 4);
        check.due("address(8)", x.address(8), 12);
    }

    /** "else, when all free words together are s or more, the memory is compacted" */
    private static void compactsForJustAllFreeWords() {
        CountedObjects x = Memory.row(16, 20, 4, 4, 4, 4);
        Memory.clear(x, 0, 2);
        check.due("eight words of eight", Memory.placed(x, 8), 8);
        check.due("address(4)", x.address(4), 0);
        check.due("address(8)", x.address(8), 4);
        check.due("chunks(0)", x.chunks(0), 0);
    }

    /** "otherwise it cannot be done" */
    private static void doesNotCompactForOneWordMore() {
        check.dueRefused("nine words of eight", () -> {
            CountedObjects x = Memory.row(16, 20, 4, 4, 4, 4);
            Memory.clear(x, 0, 2);
            return x;
        }, Check.STATE, x -> x.instantiate(0, 0, 7));
    }

    /** "and then it is as before" */
    private static void placedAsBeforeWhenCompacted() {
        CountedObjects x = Memory.row(20, 20, 4, 4, 4, 4);
        Memory.clear(x, 0, 2);
        check.due("nine words of twelve", Memory.placed(x, 9), 8);
        check.due("chunks(3)", x.chunks(3), 1);
        check.due("chunks(0)", x.chunks(0), 1);
        check.due("the rest", Memory.placed(x, 3), 17);
    }

    /** "otherwise a call that throws changes nothing": not the ages either */
    private static void refusedCallsLeaveTheAges() {
        CountedObjects x = Memory.row(18, 20, 4, 2, 4, 2, 4, 2);
        Memory.clear(x, 2, 4, 0);
        check.dueThrow("20 words of 12", x, Check.STATE, y -> y.instantiate(0, 0, 18));
        check.dueThrow("no class", x, Check.ARGUMENT, y -> y.instantiate(0, 2, 2));
        check.dueThrow("no register", x, Check.INDEX, y -> y.instantiate(8, 0, 2));
        check.due("youngest", Memory.placed(x, 4), 0);
        check.due("then", Memory.placed(x, 4), 12);
        check.due("oldest", Memory.placed(x, 4), 6);
    }
}
