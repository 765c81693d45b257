/** Promise 10. */
public final class CollectTest {
    private static final Check check = new Check();

    public static void main(String[] args) {
        nothingToTake();
        takesWhatNothingLeadsTo();
        leavesWhatIsLedTo();
        chunksComeInTheOrderOfEntries();
        whatIsTakenRefersNoLonger();
        countsTypesAndFields();
        check.end();
    }

    private static void nothingToTake() {
        CountedObjects x = new CountedObjects(40, 4);
        check.due("empty", x.collect(), 0);
        check.due("chunks(40)", x.chunks(40), 1);
        x.instantiate(7, 0, 0);
        String before = Picture.of(x);
        check.due("one, in the last register", x.collect(), 0);
        check.due("state", Picture.of(x), before);
    }

    private static void takesWhatNothingLeadsTo() {
        CountedObjects x = new CountedObjects(40, 6);
        x.instantiate(0, 0, 1);
        x.instantiate(1, 2, 1);
        x.instantiate(2, 0, 1);
        x.store(2, 0, 4);
        x.store(6, 0, 6);
        x.set(0, 0);
        x.set(1, 2);
        x.set(2, 0);
        check.due("only 6", x.collect(), 1);
        check.due("exists(6)", x.exists(6), false);
        x.set(1, 1);
        check.due("the cycle", x.collect(), 2);
        check.due("free()", x.free(), 40);
        check.due("chunks(3)", x.chunks(3), 3);
        check.due("chunks(31)", x.chunks(31), 1);
    }

    private static void leavesWhatIsLedTo() {
        CountedObjects x = new CountedObjects(100, 12);
        for (int i = 0; i < 6; i++) {
            x.instantiate(0, x.register(0), 1);
        }
        for (int i = 0; i < 6; i++) {
            int made = x.instantiate(1, 3, 2);
            x.store(made, 1, x.register(0));
            x.set(0, made);
        }
        x.set(1, 0);
        check.due("all are led to", x.collect(), 0);
        check.due("objects()", x.objects(), 12);
        for (int o = 2; o <= 24; o += 2) {
            check.due("count(" + o + ")", x.count(o), 1);
        }
    }

    private static void chunksComeInTheOrderOfEntries() {
        CountedObjects x = new CountedObjects(20, 8);
        for (int r = 0; r < 5; r++) {
            x.instantiate(r, 0, 2);
            x.store(2 * r + 2, 0, 2 * r + 2);
        }
        x.become(2, 8);
        x.store(2, 0, 2);
        x.store(8, 0, 8);
        for (int r = 0; r < 4; r++) {
            x.set(r, 0);
        }
        check.due("collect()", x.collect(), 4);
        int[] due = {0, 8, 4, 12};
        for (int r = 0; r < 4; r++) {
            check.due("the youngest", x.address(x.instantiate(r, 0, 2)), due[r]);
        }
    }

    private static void whatIsTakenRefersNoLonger() {
        CountedObjects x = new CountedObjects(60, 6);
        x.instantiate(0, 0, 0);
        x.instantiate(1, 2, 3);
        x.store(4, 0, 4);
        x.store(4, 1, 2);
        x.store(4, 2, 2);
        x.set(1, 0);
        check.due("count(2) before", x.count(2), 4);
        check.due("collect()", x.collect(), 1);
        check.due("count(2) behind", x.count(2), 1);
        x.set(0, 0);
        check.due("exists(2)", x.exists(2), false);
    }

    private static void countsTypesAndFields() {
        CountedObjects x = new CountedObjects(60, 6);
        x.instantiate(0, 0, 20);
        x.instantiate(1, 2, 2);
        x.store(4, 0, 2);
        x.store(4, 1, 4);
        check.due("collect()", x.collect(), 0);
        check.due("register, class and field", x.count(2), 3);
        check.due("register and field", x.count(4), 2);
        for (int k = 0; k < 20; k++) {
            x.store(2, k, 4);
        }
        check.due("collect()", x.collect(), 0);
        check.due("full", x.count(4), 7);
        for (int k = 4; k < 20; k++) {
            x.store(2, k, 0);
        }
        check.due("full stays", x.count(4), 7);
        check.due("collect()", x.collect(), 0);
        check.due("register and five fields", x.count(4), 6);
    }
}
