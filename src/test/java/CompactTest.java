/** Promise 11, and TO COMPACT; what stands in quotes is the document's. */
public final class CompactTest {
    private static final Check check = new Check();

    public static void main(String[] args) {
        nothingThere();
        nothingToMove();
        nothingIsLeftFree();
        chunksBecomeOneWithoutObjects();
        chunksBecomeOneBehindObjects();
        movesByOneWord();
        movesInTheOrderOfAddresses();
        tellsOnlyThoseThatMoved();
        movesAllEntries();
        movesToTheLastWordToo();
        leavesLooseOnesAndCounts();
        oneChunkIsPlacedFromItsFirstWord();
        check.end();
    }

    private static void nothingThere() {
        CountedObjects x = new CountedObjects(40, 4);
        check.due("compact()", x.compact(), 0);
        check.dueState("compact()", x, Picture.of(new CountedObjects(40, 4)));
    }

    private static void nothingToMove() {
        CountedObjects x = Memory.row(40, 4, 7, 7);
        check.due("compact()", x.compact(), 0);
        check.dueState("compact()", x, Picture.of(Memory.row(40, 4, 7, 7)));
    }

    /** "the rest, if there is any, is the one free chunk" */
    private static void nothingIsLeftFree() {
        CountedObjects x = Memory.row(16, 4, 8, 8);
        check.due("compact()", x.compact(), 0);
        check.due("chunks(0)", x.chunks(0), 0);
        check.due("free()", x.free(), 0);
        check.dueThrow("no word is free", x, Check.STATE, y -> y.instantiate(2, 0, 0));
    }

    private static void chunksBecomeOneWithoutObjects() {
        CountedObjects x = Memory.row(40, 4, 3, 3, 3);
        Memory.clear(x, 0, 1, 2);
        check.due("chunks(0)", x.chunks(0), 4);
        check.due("compact()", x.compact(), 0);
        check.dueState("compact()", x, Picture.of(new CountedObjects(40, 4)));
    }

    private static void chunksBecomeOneBehindObjects() {
        CountedObjects x = Memory.row(40, 4, 3, 3, 3);
        Memory.clear(x, 2, 1);
        check.due("chunks(0)", x.chunks(0), 3);
        check.due("none is moved", x.compact(), 0);
        check.dueState("compact()", x, Picture.of(Memory.row(40, 4, 3)));
    }

    /** The new words of 4 overlap those that it had. */
    private static void movesByOneWord() {
        CountedObjects x = Memory.row(17, 4, 3, 11);
        for (int k = 0; k < 9; k++) {
            x.store(4, k, 2 * k + 1);
        }
        Memory.clear(x, 0);
        x.instantiate(0, 0, 0);
        check.due("a hole of one word", x.chunks(1), 1);
        check.due("compact()", x.compact(), 1);
        check.dueState("compact()", x, "2 4 0 0 0 0 0 0 ; 2 at 0 count 1 class 0 ()"
                + "; 4 at 2 count 1 class 0 (1 3 5 7 9 11 13 15 17); chunks 1*0 1*4; free 4, objects 2");
    }

    /** "all objects are moved, in the order of their addresses" */
    private static void movesInTheOrderOfAddresses() {
        CountedObjects x = new CountedObjects(40, 8);
        x.instantiate(0, 0, 1);
        x.instantiate(1, 0, 2);
        x.instantiate(2, 7, 3);
        x.instantiate(3, 4, 4);
        x.instantiate(4, 0, 5);
        x.store(6, 2, 8);
        x.store(8, 3, -9);
        x.store(10, 4, 10);
        x.become(6, 10);
        Memory.clear(x, 1, 0);
        check.due("compact()", x.compact(), 4);
        check.dueState("compact()", x, "0 0 6 8 10 0 0 0 "
                + "; 4 at 0 count 1 class 0 (0 0)"
                + "; 6 at 15 count 1 class 0 (0 0 0 0 10)"
                + "; 8 at 9 count 2 class 4 (0 0 0 -9)"
                + "; 10 at 4 count 2 class 7 (0 0 8)"
                + "; chunks 1*0 1*18; free 18, objects 4");
        check.due("and no more", x.compact(), 0);
    }

    /** "Answers how many objects have another address then." */
    private static void tellsOnlyThoseThatMoved() {
        for (int hole = 0; hole < 5; hole++) {
            CountedObjects x = Memory.row(40, 8, 4, 4, 4, 4, 4);
            Memory.clear(x, hole);
            check.due("behind the hole " + hole, x.compact(), 4 - hole);
            check.due("chunks(24)", x.chunks(24), 1);
        }
    }

    private static void movesAllEntries() {
        CountedObjects x = new CountedObjects(400, 40);
        x.instantiate(0, 0, 0);
        for (int i = 1; i < 40; i++) {
            Memory.made(x, 2 + i % 7);
        }
        x.set(0, 0);
        Memory.made(x, 22);
        check.due("all are behind the hole", x.compact(), 40);
        check.due("address(4)", x.address(4), 0);
        check.due("address(2), it is behind the others", x.address(2), 193);
        check.due("free()", x.free(), 185);
    }

    private static void movesToTheLastWordToo() {
        CountedObjects x = Memory.row(16, 4, 2, 14);
        x.store(4, 11, 5);
        Memory.clear(x, 0);
        check.due("compact()", x.compact(), 1);
        check.due("fetch(4, 11)", x.fetch(4, 11), 5);
        check.due("chunks(2)", x.chunks(2), 1);
        check.due("the last two words", Memory.placed(x, 2), 14);
    }

    private static void leavesLooseOnesAndCounts() {
        CountedObjects x = Memory.row(40, 4, 3, 3, 8);
        Memory.clear(x, 0);
        Memory.loosen(x, 1);
        Memory.forget(x, 2);
        check.due("compact()", x.compact(), 2);
        check.due("address(4)", x.address(4), 0);
        check.due("count(4)", x.count(4), 1);
        check.due("address(6)", x.address(6), 3);
        check.due("count(6)", x.count(6), 7);
    }

    private static void oneChunkIsPlacedFromItsFirstWord() {
        CountedObjects x = Memory.row(40, 8, 3, 3, 3);
        Memory.clear(x, 0);
        check.due("compact()", x.compact(), 2);
        check.due("behind the objects", Memory.placed(x, 3), 6);
        check.due("chunks(0)", x.chunks(0), 1);
        check.due("chunks(31)", x.chunks(31), 1);
    }
}
