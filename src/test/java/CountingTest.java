/** The terms: counts that grow full, and letting go. Promise 13 rests on them. What stands in quotes is the document's. */
public final class CountingTest {
    private static final Check check = new Check();

    public static void main(String[] args) {
        registersFieldsAndClassesCount();
        numbersAndNothingDoNotCount();
        fullByRegisters();
        fullByFields();
        fullByClasses();
        sixIsNotFull();
        fullStaysWhenAllAreGone();
        fullIsNotLetGoByAnother();
        zeroIsLetGo();
        classGoesFirst();
        fieldsGoByNumber();
        oneGoesBeforeTheNext();
        wordsGoLast();
        goesWithTheLastOfItsReferences();
        entryIsFreeAfterwards();
        longestChainIsLetGo();
        widestObjectIsLetGo();
        cyclesStay();
        check.end();
    }

    /** "A REFERENCE to an object comes when it gets into a register, a field or a class" */
    private static void registersFieldsAndClassesCount() {
        CountedObjects x = Memory.row(40, 4, 4);
        check.due("register", x.count(2), 1);
        x.instantiate(1, 2, 1);
        check.due("class", x.count(2), 2);
        x.store(4, 0, 2);
        check.due("field", x.count(2), 3);
        x.store(2, 1, 2);
        check.due("field of its own", x.count(2), 4);
        x.set(0, 0);
        check.due("out of the register", x.count(2), 3);
        x.store(2, 1, 1);
        check.due("out of its own field", x.count(2), 2);
        x.store(4, 0, 0);
        check.due("out of the field", x.count(2), 1);
        x.set(1, 0);
        check.due("out of the class", x.exists(2), false);
    }

    private static void numbersAndNothingDoNotCount() {
        CountedObjects x = Memory.row(40, 4, 4);
        x.set(1, 1);
        x.set(2, 3);
        x.store(2, 0, 3);
        x.store(2, 1, 1);
        x.instantiate(3, 3, 0);
        check.due("count(2)", x.count(2), 1);
        check.due("count(3)", x.count(3), 0);
        x.set(2, 0);
        x.set(3, 0);
        check.due("count(2)", x.count(2), 1);
    }

    /** "Each object has a COUNT, at most 7; 7 is FULL, and stays." */
    private static void fullByRegisters() {
        CountedObjects x = Memory.row(40, 4, 2);
        for (int r = 1; r < 8; r++) {
            x.set(r, 2);
            check.due("count(2)", x.count(2), Math.min(7, r + 1));
        }
        x.set(7, 0);
        check.due("seven registers of eight", x.count(2), 7);
        x.set(6, 0);
        check.due("six registers of eight", x.count(2), 7);
    }

    private static void fullByFields() {
        CountedObjects x = Memory.row(40, 4, 22, 2);
        for (int k = 0; k < 20; k++) {
            x.store(2, k, 4);
            check.due("count(4)", x.count(4), Math.min(7, k + 2));
        }
        for (int k = 0; k < 20; k++) {
            x.store(2, k, 0);
            check.due("full stays", x.count(4), 7);
        }
    }

    private static void fullByClasses() {
        CountedObjects x = Memory.row(40, 12, 2);
        for (int r = 1; r < 8; r++) {
            x.instantiate(r, 2, 0);
            check.due("count(2)", x.count(2), Math.min(7, r + 1));
        }
        for (int r = 1; r < 8; r++) {
            x.set(r, 0);
            check.due("full stays", x.count(2), 7);
        }
    }

    private static void sixIsNotFull() {
        CountedObjects x = Memory.row(40, 4, 2);
        for (int r = 1; r < 6; r++) {
            x.set(r, 2);
        }
        for (int r = 5; r >= 0; r--) {
            check.due("count(2)", x.count(2), r + 1);
            x.set(r, 0);
        }
        check.due("exists(2)", x.exists(2), false);
    }

    private static void fullStaysWhenAllAreGone() {
        CountedObjects x = Memory.row(40, 4, 2);
        for (int r = 1; r < 7; r++) {
            x.set(r, 2);
        }
        for (int r = 0; r < 7; r++) {
            x.set(r, 0);
        }
        check.due("exists(2)", x.exists(2), true);
        check.due("count(2)", x.count(2), 7);
        x.set(0, 2);
        check.due("not more", x.count(2), 7);
        check.due("free()", x.free(), 38);
    }

    private static void fullIsNotLetGoByAnother() {
        CountedObjects x = Memory.row(40, 4, 8, 3);
        x.store(4, 0, 2);
        Memory.forget(x, 0);
        x.set(1, 0);
        check.due("exists(4)", x.exists(4), false);
        check.due("exists(2)", x.exists(2), true);
        check.due("count(2)", x.count(2), 7);
    }

    /** "with the count 0 the object is LET GO" */
    private static void zeroIsLetGo() {
        CountedObjects x = Memory.row(40, 4, 5);
        x.set(1, 2);
        x.set(0, 0);
        check.due("one is not 0", x.exists(2), true);
        x.set(1, 0);
        check.dueState("let go", x, "0 0 0 0 0 0 0 0 ; chunks 2*0 1*5 1*35; free 40, objects 0");
    }

    /** Their ages tell in which order the chunks came: of one size, the youngest is placed first. */
    private static void dueYoungestFirst(CountedObjects x, int words, int... addresses) {
        for (int address : addresses) {
            check.due("the youngest of " + words + " words", Memory.placed(x, words), address);
        }
    }

    /** "first its class is a reference no longer, then its fields" */
    private static void classGoesFirst() {
        CountedObjects x = Memory.row(40, 8, 2, 2);
        x.instantiate(2, 2, 1);
        x.store(6, 0, 4);
        Memory.clear(x, 0, 1, 2);
        dueYoungestFirst(x, 2, 2, 0);
        CountedObjects y = Memory.row(40, 8, 2, 2);
        y.instantiate(2, 4, 1);
        y.store(6, 0, 2);
        Memory.clear(y, 0, 1, 2);
        dueYoungestFirst(y, 2, 0, 2);
    }

    /** "then its fields, by number" */
    private static void fieldsGoByNumber() {
        CountedObjects x = Memory.row(40, 8, 2, 2, 2, 7);
        x.store(8, 4, 4);
        x.store(8, 0, 6);
        x.store(8, 2, 2);
        Memory.clear(x, 0, 1, 2, 3);
        check.due("objects()", x.objects(), 0);
        dueYoungestFirst(x, 2, 2, 0, 4);
    }

    /** "(each of which may let an object go before it goes on)" */
    private static void oneGoesBeforeTheNext() {
        CountedObjects x = Memory.row(40, 8, 2, 3, 2, 4);
        x.store(4, 0, 2);
        x.store(8, 0, 4);
        x.store(8, 1, 6);
        Memory.clear(x, 0, 1, 2, 3);
        check.due("objects()", x.objects(), 0);
        dueYoungestFirst(x, 2, 5, 0);
    }

    /** "and then its words become a free chunk" */
    private static void wordsGoLast() {
        CountedObjects x = Memory.row(40, 8, 3, 3, 3);
        x.store(2, 0, 6);
        x.store(6, 0, 4);
        Memory.clear(x, 1, 2, 0);
        check.due("objects()", x.objects(), 0);
        dueYoungestFirst(x, 3, 0, 6, 3);
    }

    private static void goesWithTheLastOfItsReferences() {
        CountedObjects x = Memory.row(40, 8, 2, 2);
        x.instantiate(2, 2, 2);
        x.store(6, 0, 4);
        x.store(6, 1, 2);
        Memory.clear(x, 0, 1);
        check.due("count(2)", x.count(2), 2);
        x.set(2, 0);
        check.due("objects()", x.objects(), 0);
        dueYoungestFirst(x, 2, 0, 2);
    }

    /** "and its entry is free" */
    private static void entryIsFreeAfterwards() {
        CountedObjects x = Memory.row(40, 2, 3, 2);
        x.store(2, 0, 4);
        Memory.clear(x, 1, 0);
        check.due("first", Memory.made(x, 2), 2);
        check.due("second", Memory.made(x, 2), 4);
    }

    private static void longestChainIsLetGo() {
        CountedObjects x = new CountedObjects(400, 40);
        for (int i = 0; i < 40; i++) {
            Memory.made(x, 10);
        }
        check.due("free()", x.free(), 0);
        x.set(7, 0);
        check.due("objects()", x.objects(), 0);
        check.due("free()", x.free(), 400);
        check.due("chunks(10)", x.chunks(10), 40);
        dueYoungestFirst(x, 10, 390, 380, 370);
    }

    private static void widestObjectIsLetGo() {
        CountedObjects x = new CountedObjects(100, 40);
        x.instantiate(1, 0, 0);
        x.instantiate(0, 2, 20);
        for (int k = 0; k < 20; k++) {
            x.instantiate(1, 0, 0);
            x.store(4, k, x.register(1));
        }
        x.set(1, 0);
        check.due("objects()", x.objects(), 22);
        x.set(0, 0);
        check.due("objects()", x.objects(), 0);
        check.due("chunks(2)", x.chunks(2), 21);
        dueYoungestFirst(x, 2, 62, 60, 58);
    }

    private static void cyclesStay() {
        CountedObjects x = Memory.row(40, 8, 3, 3);
        x.store(2, 0, 4);
        x.store(4, 0, 2);
        Memory.clear(x, 0, 1);
        check.due("objects()", x.objects(), 2);
        check.due("what nothing leads to may be named", x.fetch(2, 0), 4);
        check.due("store(2, 0, 0)", x.store(2, 0, 0), 4);
        check.due("both were let go", x.objects(), 0);
    }
}
