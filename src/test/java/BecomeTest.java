/** Promise 9; what stands in quotes is the document's. */
public final class BecomeTest {
    private static final Check check = new Check();

    public static void main(String[] args) {
        wordsAreExchanged();
        twiceIsAsBefore();
        oneBecomesItself();
        firstAndLastEntry();
        countsStayWithTheEntries();
        referencesStayWithTheEntries();
        refusesWhatIsNoObject();
        lettingGoFollowsTheWords();
        looseOnesBecome();
        check.end();
    }

    private static CountedObjects withTwo() {
        CountedObjects x = new CountedObjects(40, 4);
        x.instantiate(0, 5, 2);
        x.instantiate(1, 2, 3);
        x.store(2, 0, 4);
        x.store(2, 1, 2);
        x.store(4, 2, 9);
        x.set(2, 4);
        return x;
    }

    /** "each one's entry gets the other one's words, with its class and fields" */
    private static void wordsAreExchanged() {
        CountedObjects x = withTwo();
        x.become(2, 4);
        check.dueState("become(2, 4)", x, "2 4 4 0 0 0 0 0 "
                + "; 2 at 4 count 3 class 2 (0 0 9); 4 at 0 count 3 class 5 (4 2)"
                + "; chunks 1*0 1*31; free 31, objects 2");
    }

    private static void twiceIsAsBefore() {
        CountedObjects x = withTwo();
        x.become(2, 4);
        x.become(4, 2);
        check.dueState("and back", x, Picture.of(withTwo()));
    }

    private static void oneBecomesItself() {
        CountedObjects x = withTwo();
        x.become(4, 4);
        check.dueState("become(4, 4)", x, Picture.of(withTwo()));
    }

    private static void firstAndLastEntry() {
        CountedObjects x = new CountedObjects(400, 40);
        for (int i = 0; i < 40; i++) {
            Memory.made(x, 2 + i % 9);
        }
        int address = x.address(80);
        x.become(2, 80);
        check.due("address(2)", x.address(2), address);
        check.due("address(80)", x.address(80), 0);
        check.due("type(2), which was that of 80", x.type(2), 78);
        check.due("type(80)", x.type(80), 0);
        check.due("fields(2)", x.fields(2), 3);
        check.due("fields(80)", x.fields(80), 0);
    }

    /** "the counts stay with the entries" */
    private static void countsStayWithTheEntries() {
        CountedObjects x = Memory.row(40, 4, 8, 3, 2);
        Memory.forget(x, 0);
        x.set(5, 4);
        x.become(2, 4);
        check.due("count(2), it is full", x.count(2), 7);
        check.due("count(4)", x.count(4), 2);
        x.become(4, 6);
        check.due("count(4)", x.count(4), 2);
        check.due("count(6)", x.count(6), 1);
        Memory.clear(x, 1, 5);
        check.due("the two words that 6 had are let go", x.chunks(2), 1);
        check.due("exists(4)", x.exists(4), false);
        check.due("fields(6), the eight words", x.fields(6), 6);
        check.due("fields(2), the three words", x.fields(2), 1);
    }

    private static void referencesStayWithTheEntries() {
        CountedObjects x = new CountedObjects(40, 4);
        x.instantiate(0, 0, 1);
        x.instantiate(1, 2, 1);
        x.store(2, 0, 4);
        Memory.clear(x, 0, 1);
        x.become(2, 4);
        check.due("2 has itself as class", x.type(2), 2);
        check.due("4 has itself as field", x.fetch(4, 0), 4);
        check.due("count(2)", x.count(2), 1);
        check.due("count(4)", x.count(4), 1);
        check.due("store(4, 0, 0)", x.store(4, 0, 0), 4);
        check.due("exists(4)", x.exists(4), false);
        check.due("exists(2)", x.exists(2), true);
    }

    /** "IllegalArgumentException when a or b is no object" */
    private static void refusesWhatIsNoObject() {
        for (int o : Memory.NO_OBJECTS) {
            refuse(o);
        }
        refuse(6);
        refuse(8);
        refuse(10);
    }

    private static void refuse(int o) {
        check.dueRefused("become(2, " + o + ")", BecomeTest::withTwo, Check.ARGUMENT, x -> x.become(2, o));
        check.dueRefused("become(" + o + ", 2)", BecomeTest::withTwo, Check.ARGUMENT, x -> x.become(o, 2));
        check.dueRefused("become twice " + o, BecomeTest::withTwo, Check.ARGUMENT, x -> x.become(o, o));
    }

    private static void lettingGoFollowsTheWords() {
        CountedObjects x = Memory.row(40, 4, 6, 3, 2);
        x.store(2, 3, 6);
        x.set(2, 0);
        x.become(2, 4);
        x.set(0, 0);
        check.due("the small one is let go", x.chunks(3), 1);
        check.due("count(6)", x.count(6), 1);
        x.set(1, 0);
        check.due("objects()", x.objects(), 0);
        check.due("chunks(6)", x.chunks(6), 1);
    }

    private static void looseOnesBecome() {
        CountedObjects x = Memory.row(40, 4, 4, 3);
        Memory.loosen(x, 0);
        x.become(2, 4);
        check.due("4 leads to 2 now", x.fetch(4, 0), 2);
        check.due("nothing is loose", x.collect(), 0);
        check.due("count(2)", x.count(2), 1);
    }
}
