/** The terms: counts that grow full, and letting go. Promise 13 rests on them. */
public final class CountingTest {
    private static final Check check = new Check();

    public static void main(String[] args) {
        countsComeAndGo();
        fullStays();
        collectingCountsAnew();
        letsGoInOrder();
        nestedChunksComeFirst();
        letsGoTheLongestChain();
        twiceInOneObject();
        cyclesStay();
        check.end();
    }

    private static void countsComeAndGo() {
        CountedObjects x = new CountedObjects(40, 4);
        x.instantiate(0, 0, 2);
        check.due("register", x.count(2), 1);
        x.instantiate(1, 2, 1);
        check.due("class", x.count(2), 2);
        x.store(4, 0, 2);
        check.due("field", x.count(2), 3);
        x.store(2, 1, 2);
        check.due("field of its own", x.count(2), 4);
        x.set(0, 0);
        check.due("out of the register", x.count(2), 3);
        x.store(2, 1, 1);
        check.due("out of the field", x.count(2), 2);
        x.set(1, 0);
        check.due("objects()", x.objects(), 0);
        check.due("count(2)", x.count(2), 0);
    }

    private static void fullStays() {
        CountedObjects x = new CountedObjects(40, 4);
        x.instantiate(0, 0, 2);
        for (int r = 1; r < 6; r++) {
            x.set(r, 2);
        }
        check.due("six", x.count(2), 6);
        x.set(5, 0);
        check.due("five", x.count(2), 5);
        x.set(5, 2);
        x.set(6, 2);
        check.due("full", x.count(2), 7);
        x.set(7, 2);
        check.due("not more", x.count(2), 7);
        for (int r = 0; r < 8; r++) {
            x.set(r, 0);
            check.due("full stays", x.count(2), 7);
        }
        x.set(0, 2);
        check.due("full still", x.count(2), 7);
    }

    private static void collectingCountsAnew() {
        for (int left = 1; left <= 8; left++) {
            CountedObjects x = new CountedObjects(40, 4);
            x.instantiate(0, 0, 2);
            for (int r = 1; r < 8; r++) {
                x.set(r, 2);
            }
            for (int r = left; r < 8; r++) {
                x.set(r, 0);
            }
            check.due("collect()", x.collect(), 0);
            check.due(left + " registers", x.count(2), Math.min(7, left));
        }
    }

    /** The chunks' ages tell in which order they came: of one size, the youngest is placed first. */
    private static void letsGoInOrder() {
        CountedObjects x = new CountedObjects(40, 8);
        x.instantiate(1, 0, 0);
        x.instantiate(2, 0, 0);
        x.instantiate(3, 0, 0);
        x.instantiate(0, 4, 2);
        x.store(8, 0, 6);
        x.store(8, 1, 2);
        x.set(1, 0);
        x.set(2, 0);
        x.set(3, 0);
        x.set(0, 0);
        check.due("objects()", x.objects(), 0);
        check.due("chunks(2)", x.chunks(2), 3);
        int[] due = {0, 4, 2};
        for (int r = 0; r < 3; r++) {
            check.due("address of the next", x.address(x.instantiate(r, 0, 0)), due[r]);
        }
    }

    private static void nestedChunksComeFirst() {
        CountedObjects x = new CountedObjects(40, 8);
        x.instantiate(0, 0, 1);
        x.instantiate(1, 0, 1);
        x.instantiate(2, 0, 1);
        x.store(2, 0, 6);
        x.store(6, 0, 4);
        x.set(1, 0);
        x.set(2, 0);
        x.set(0, 0);
        int[] due = {0, 6, 3};
        for (int r = 0; r < 3; r++) {
            check.due("address of the next", x.address(x.instantiate(r, 0, 1)), due[r]);
        }
    }

    private static void letsGoTheLongestChain() {
        CountedObjects x = new CountedObjects(400, 40);
        for (int i = 0; i < 40; i++) {
            x.instantiate(0, x.register(0), 8);
        }
        check.due("all in use", x.free(), 0);
        check.due("objects()", x.objects(), 40);
        x.set(0, 0);
        check.due("none left", x.objects(), 0);
        check.due("all free", x.free(), 400);
        check.due("chunks(10)", x.chunks(10), 40);
        check.due("the youngest was the last one made", x.address(x.instantiate(0, 0, 8)), 390);
    }

    private static void twiceInOneObject() {
        CountedObjects x = new CountedObjects(40, 8);
        x.instantiate(0, 0, 0);
        x.instantiate(1, 2, 2);
        x.store(4, 0, 2);
        x.store(4, 1, 2);
        x.set(0, 0);
        check.due("count(2)", x.count(2), 3);
        x.set(1, 0);
        check.due("objects()", x.objects(), 0);
        check.due("free()", x.free(), 40);
    }

    private static void cyclesStay() {
        CountedObjects x = new CountedObjects(40, 8);
        x.instantiate(0, 0, 1);
        x.store(2, 0, 2);
        x.set(0, 0);
        check.due("exists(2)", x.exists(2), true);
        check.due("count(2)", x.count(2), 1);
        check.due("what nothing leads to may still be named", x.fetch(2, 0), 2);
        check.due("store lets it go", x.store(2, 0, 0), 2);
        check.due("exists(2)", x.exists(2), false);
    }
}
