/** Promise 2, where there is room; what stands in quotes is the document's. */
public final class InstantiateTest {
    private static final Check check = new Check();

    public static void main(String[] args) {
        makesObjects();
        fewestAndMostFields();
        firstAndLastRegister();
        everyKindOfClass();
        refusesWhatIsNoRegister();
        refusesWhatIsNoClass();
        refusesTooFewAndTooManyFields();
        registerIsLookedAtFirst();
        wrongArgumentsDoNotCollect();
        fieldsHaveNothing();
        takesTheLeastFreeEntry();
        lastEntryNeedsNoCollecting();
        roomNeedsNoCollecting();
        classComesBeforeTheOldValueGoes();
        classMayBeFullForAMoment();
        oldValueGoesWhenTheNewOneIsPlaced();
        oldValueMayLetOthersGo();
        check.end();
    }

    private static void makesObjects() {
        CountedObjects x = new CountedObjects(60, 4);
        check.due("first", x.instantiate(7, 0, 3), 2);
        check.due("second", x.instantiate(1, 2, 0), 4);
        check.due("third", x.instantiate(2, -5, 2), 6);
        check.dueState("three", x, "0 4 6 0 0 0 0 2 "
                + "; 2 at 0 count 2 class 0 (0 0 0); 4 at 5 count 1 class 2 (); 6 at 7 count 1 class -5 (0 0)"
                + "; chunks 1*0 1*49; free 49, objects 3");
    }

    /** "with n fields it has n + 2 words", n being "0 .. 20" */
    private static void fewestAndMostFields() {
        CountedObjects x = new CountedObjects(24, 4);
        check.due("none", x.instantiate(0, 0, 0), 2);
        check.due("free()", x.free(), 22);
        check.due("20", x.instantiate(1, 0, 20), 4);
        check.due("free()", x.free(), 0);
        check.due("fields(2)", x.fields(2), 0);
        check.due("fields(4)", x.fields(4), 20);
        check.due("address(4)", x.address(4), 2);
    }

    private static void firstAndLastRegister() {
        CountedObjects x = new CountedObjects(24, 4);
        check.due("register 0", x.instantiate(0, 0, 0), 2);
        check.due("register 7", x.instantiate(7, 0, 0), 4);
        check.due("register(0)", x.register(0), 2);
        check.due("register(7)", x.register(7), 4);
    }

    /** "VALUES are 0 (nothing), odd ints (numbers), and 2 * i for an object with the entry i." */
    private static void everyKindOfClass() {
        int[] classes = {0, 1, -1, 3, -3, Integer.MAX_VALUE, Integer.MIN_VALUE + 1, 2};
        for (int type : classes) {
            CountedObjects x = Memory.row(24, 4, 2);
            check.due("of the class " + type, x.instantiate(1, type, 0), 4);
            check.due("type(4)", x.type(4), type);
        }
    }

    private static CountedObjects withOne() {
        CountedObjects x = Memory.row(40, 3, 3, 2);
        x.set(1, 0);
        return x;
    }

    private static void refuses(String want, int r, int type, int n) {
        String what = "instantiate(" + r + ", " + type + ", " + n + ")";
        check.dueRefused(what, InstantiateTest::withOne, want, x -> x.instantiate(r, type, n));
    }

    /** "IndexOutOfBoundsException when there is no such register" */
    private static void refusesWhatIsNoRegister() {
        for (int r : Memory.NO_REGISTERS) {
            refuses(Check.INDEX, r, 0, 0);
        }
    }

    /** "IllegalArgumentException when type is no value"; 4 was let go, 6 never was, 8 cannot be. */
    private static void refusesWhatIsNoClass() {
        for (int type : Memory.NO_VALUES) {
            refuses(Check.ARGUMENT, 0, type, 0);
        }
        refuses(Check.ARGUMENT, 0, 4, 0);
        refuses(Check.ARGUMENT, 0, 6, 0);
        refuses(Check.ARGUMENT, 0, 8, 0);
    }

    /** "or n is not 0 .. 20" */
    private static void refusesTooFewAndTooManyFields() {
        int[] noSizes = {-1, -2, -3, 21, 22, Integer.MIN_VALUE, Integer.MAX_VALUE, Integer.MAX_VALUE - 1};
        for (int n : noSizes) {
            refuses(Check.ARGUMENT, 0, 0, n);
        }
    }

    private static void registerIsLookedAtFirst() {
        refuses(Check.INDEX, 8, 4, 0);
        refuses(Check.INDEX, -1, 0, 21);
        refuses(Check.INDEX, Integer.MIN_VALUE, 4, -1);
    }

    /** No entry and no word is free, and 4 could be taken away. */
    private static CountedObjects fullOfLooseOnes() {
        CountedObjects x = Memory.row(16, 2, 8, 8);
        Memory.loosen(x, 1);
        return x;
    }

    /** "otherwise a call that throws changes nothing" */
    private static void wrongArgumentsDoNotCollect() {
        check.dueRefused("no register", InstantiateTest::fullOfLooseOnes, Check.INDEX, x -> x.instantiate(8, 0, 0));
        check.dueRefused("no class", InstantiateTest::fullOfLooseOnes, Check.ARGUMENT, x -> x.instantiate(0, 6, 0));
        check.dueRefused("no size", InstantiateTest::fullOfLooseOnes, Check.ARGUMENT, x -> x.instantiate(0, 0, 21));
    }

    /** "n fields with 0", whatever the words had before */
    private static void fieldsHaveNothing() {
        CountedObjects x = new CountedObjects(16, 2);
        x.instantiate(0, 5, 14);
        for (int k = 0; k < 14; k++) {
            x.store(2, k, 9);
        }
        x.set(0, 0);
        x.instantiate(0, 0, 14);
        check.dueState("made in used words", x, "2 0 0 0 0 0 0 0 "
                + "; 2 at 0 count 1 class 0 (0 0 0 0 0 0 0 0 0 0 0 0 0 0); chunks; free 0, objects 1");
    }

    /** "with the least free entry" */
    private static void takesTheLeastFreeEntry() {
        CountedObjects x = Memory.row(60, 6, 2, 2, 2, 2, 2);
        Memory.clear(x, 3, 1);
        check.due("least, though it was free later", x.instantiate(7, 0, 0), 4);
        check.due("next", x.instantiate(6, 0, 0), 8);
        check.due("last", x.instantiate(5, 0, 0), 12);
        Memory.clear(x, 4, 0);
        check.due("first", x.instantiate(0, 0, 0), 2);
    }

    /** "when no entry is free, it is collected", and not when just one is */
    private static void lastEntryNeedsNoCollecting() {
        CountedObjects x = Memory.row(40, 3, 3, 3);
        Memory.loosen(x, 0);
        check.due("the last entry", x.instantiate(0, 0, 0), 6);
        check.due("2 is left", x.exists(2), true);
        check.due("by collecting now", x.instantiate(2, 0, 0), 2);
    }

    private static void roomNeedsNoCollecting() {
        CountedObjects x = Memory.row(40, 5, 8, 8);
        Memory.loosen(x, 0);
        Memory.forget(x, 1);
        check.due("made", x.instantiate(0, 0, 20), 6);
        check.due("count(2)", x.count(2), 1);
        check.due("count(4)", x.count(4), 7);
        check.due("free()", x.free(), 2);
    }

    /** "the new reference comes before the old one goes" */
    private static void classComesBeforeTheOldValueGoes() {
        CountedObjects x = Memory.row(40, 4, 2);
        check.due("its class was in its register alone", x.instantiate(0, 2, 0), 4);
        check.due("exists(2)", x.exists(2), true);
        check.due("count(2)", x.count(2), 1);
        check.due("count(4)", x.count(4), 1);
    }

    private static void classMayBeFullForAMoment() {
        CountedObjects x = Memory.row(40, 4, 2);
        for (int r = 1; r <= 5; r++) {
            x.set(r, 2);
        }
        check.due("count(2)", x.count(2), 6);
        x.instantiate(5, 2, 0);
        check.due("the class came, and the register's could not go", x.count(2), 7);
    }

    private static void oldValueGoesWhenTheNewOneIsPlaced() {
        CountedObjects x = Memory.row(20, 4, 4);
        check.due("not the entry of the old one", x.instantiate(0, 0, 2), 4);
        check.due("nor its words", x.address(4), 4);
        check.due("exists(2)", x.exists(2), false);
        check.due("chunks(4)", x.chunks(4), 1);
    }

    private static void oldValueMayLetOthersGo() {
        CountedObjects x = Memory.row(40, 5, 3, 3, 3);
        x.store(2, 0, 4);
        x.store(4, 0, 6);
        Memory.clear(x, 1, 2);
        check.due("its class is left", x.instantiate(0, 4, 0), 8);
        check.dueState("made", x, "8 0 0 0 0 0 0 0 "
                + "; 4 at 3 count 1 class 0 (6); 6 at 6 count 1 class 0 (0); 8 at 9 count 1 class 4 ()"
                + "; chunks 2*0 1*3 1*29; free 32, objects 3");
        check.due("nothing is left of them", x.instantiate(0, 0, 0), 2);
        check.due("objects()", x.objects(), 1);
    }
}
