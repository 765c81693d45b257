/** Promise 11. */
public final class CompactTest {
    private static final Check check = new Check();

    public static void main(String[] args) {
        nothingToMove();
        movesInTheOrderOfAddresses();
        chunksBecomeOne();
        noRest();
        leavesWhatNothingLeadsTo();
        check.end();
    }

    private static void nothingToMove() {
        CountedObjects x = new CountedObjects(40, 4);
        check.due("empty", x.compact(), 0);
        check.due("chunks(40)", x.chunks(40), 1);
        x.instantiate(0, 0, 5);
        x.instantiate(1, 0, 5);
        String before = Picture.of(x);
        check.due("side by side", x.compact(), 0);
        check.due("state", Picture.of(x), before);
    }

    private static void movesInTheOrderOfAddresses() {
        CountedObjects x = new CountedObjects(40, 8);
        x.instantiate(0, 0, 1);
        x.instantiate(1, 0, 2);
        x.instantiate(2, 7, 3);
        x.instantiate(3, 4, 4);
        x.instantiate(4, 0, 5);
        x.store(6, 2, 8);
        x.store(8, 3, -9);
        x.store(10, 4, 10);
        x.become(6, 10);
        x.set(1, 0);
        x.set(0, 0);
        check.due("only what lies behind the first hole", x.compact(), 4);
        check.due("state", Picture.of(x), "0 0 6 8 10 0 0 0 "
                + "; 4 at 0 count 1 class 0 (0 0)"
                + "; 6 at 15 count 1 class 0 (0 0 0 0 10)"
                + "; 8 at 9 count 2 class 4 (0 0 0 -9)"
                + "; 10 at 4 count 2 class 7 (0 0 8)"
                + "; chunks 1*0 1*18; free 18, objects 4");
        check.due("and no more", x.compact(), 0);
        x.set(3, 0);
        x.set(4, 0);
        x.instantiate(5, 0, 0);
        check.due("2 at 22", x.address(2), 22);
        x.store(10, 2, 0);
        check.due("4 and 8 are let go", x.objects(), 3);
        check.due("10, 6 and 2", x.compact(), 3);
        check.due("address(10)", x.address(10), 0);
        check.due("address(6)", x.address(6), 5);
        check.due("address(2)", x.address(2), 12);
    }

    private static void chunksBecomeOne() {
        CountedObjects x = new CountedObjects(40, 4);
        x.instantiate(0, 0, 1);
        x.instantiate(1, 0, 1);
        x.instantiate(2, 0, 1);
        x.set(2, 0);
        x.set(1, 0);
        check.due("chunks(0)", x.chunks(0), 3);
        check.due("none is moved", x.compact(), 0);
        check.due("chunks(0)", x.chunks(0), 1);
        check.due("chunks(37)", x.chunks(37), 1);
        x.set(0, 0);
        check.due("compact()", x.compact(), 0);
        check.due("chunks(40)", x.chunks(40), 1);
    }

    private static void noRest() {
        CountedObjects x = new CountedObjects(16, 4);
        x.instantiate(0, 0, 6);
        x.instantiate(1, 0, 6);
        check.due("compact()", x.compact(), 0);
        check.due("chunks(0)", x.chunks(0), 0);
        check.due("free()", x.free(), 0);
    }

    private static void leavesWhatNothingLeadsTo() {
        CountedObjects x = new CountedObjects(40, 4);
        x.instantiate(0, 0, 1);
        x.instantiate(1, 0, 1);
        x.store(4, 0, 4);
        x.set(0, 0);
        x.set(1, 0);
        check.due("compact()", x.compact(), 1);
        check.due("address(4)", x.address(4), 0);
        check.due("count(4)", x.count(4), 1);
    }
}
