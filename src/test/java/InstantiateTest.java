/** Promise 2. */
public final class InstantiateTest {
    private static final Check check = new Check();

    public static void main(String[] args) {
        makesObjects();
        refusesWrongArguments();
        classComesBeforeTheOldValueGoes();
        oldValueGoesAfterPlacing();
        wordsAreCleared();
        takesTheLeastFreeEntry();
        collectsWhenNoEntryIsFree();
        collectsWhenWordsCannotBePlaced();
        entryIsTheLeastAfterCollecting();
        compactsBeforeItCollects();
        collectsAndThenCompacts();
        typeIsLookedAt();
        typeIsLeftWithTheCountNothing();
        whatLeadsFromTypeIsLeft();
        collectingStaysWhenThereIsNoRoom();
        doesNotCompactInVain();
        check.end();
    }

    private static void makesObjects() {
        CountedObjects x = new CountedObjects(60, 4);
        check.due("first", x.instantiate(7, 0, 3), 2);
        check.due("second", x.instantiate(1, 2, 0), 4);
        check.due("third, the most fields", x.instantiate(2, -5, 20), 6);
        check.due("state", Picture.of(x), "0 4 6 0 0 0 0 2 "
                + "; 2 at 0 count 2 class 0 (0 0 0); 4 at 5 count 1 class 2 ()"
                + "; 6 at 7 count 1 class -5 (0 0 0 0 0 0 0 0 0 0 0 0 0 0 0 0 0 0 0 0)"
                + "; chunks 1*0 1*31; free 31, objects 3");
    }

    private static void refusesWrongArguments() {
        CountedObjects x = new CountedObjects(40, 3);
        x.instantiate(0, 0, 1);
        refuses(x, Check.INDEX, -1, 0, 0);
        refuses(x, Check.INDEX, 8, 0, 0);
        refuses(x, Check.INDEX, Integer.MIN_VALUE, 4, 21);
        refuses(x, Check.INDEX, Integer.MAX_VALUE, 0, -1);
        int[] noValues = {4, 6, 8, 82, -2, -4, Integer.MIN_VALUE, Integer.MAX_VALUE - 1};
        for (int type : noValues) {
            refuses(x, Check.ARGUMENT, 0, type, 0);
        }
        int[] noSizes = {-1, 21, Integer.MIN_VALUE, Integer.MAX_VALUE};
        for (int n : noSizes) {
            refuses(x, Check.ARGUMENT, 0, 0, n);
        }
    }

    private static void refuses(CountedObjects x, String want, int r, int type, int n) {
        String what = "instantiate(" + r + ", " + type + ", " + n + ")";
        check.dueThrowAndNoChange(what, x, want, () -> x.instantiate(r, type, n));
    }

    private static void classComesBeforeTheOldValueGoes() {
        CountedObjects x = new CountedObjects(40, 4);
        x.instantiate(0, 0, 0);
        check.due("its class was in its register", x.instantiate(0, 2, 0), 4);
        check.due("count(2)", x.count(2), 1);
        for (int r = 1; r <= 5; r++) {
            x.set(r, 2);
        }
        check.due("count(2)", x.count(2), 6);
        check.due("again", x.instantiate(5, 2, 0), 6);
        check.due("it was full for a moment", x.count(2), 7);
    }

    private static void oldValueGoesAfterPlacing() {
        CountedObjects x = new CountedObjects(20, 4);
        x.instantiate(0, 0, 2);
        check.due("the other entry", x.instantiate(0, 0, 2), 4);
        check.due("address(4)", x.address(4), 4);
        check.due("exists(2)", x.exists(2), false);
        check.due("chunks(4)", x.chunks(4), 1);
    }

    private static void wordsAreCleared() {
        CountedObjects x = new CountedObjects(16, 2);
        x.instantiate(0, 5, 14);
        for (int k = 0; k < 14; k++) {
            x.store(2, k, 9);
        }
        x.set(0, 0);
        x.instantiate(0, 0, 14);
        check.due("state", Picture.of(x), "2 0 0 0 0 0 0 0 "
                + "; 2 at 0 count 1 class 0 (0 0 0 0 0 0 0 0 0 0 0 0 0 0); chunks; free 0, objects 1");
    }

    private static void takesTheLeastFreeEntry() {
        CountedObjects x = new CountedObjects(60, 6);
        for (int r = 0; r < 5; r++) {
            x.instantiate(r, 0, 0);
        }
        x.set(3, 0);
        x.set(1, 0);
        check.due("least", x.instantiate(7, 0, 0), 4);
        check.due("next", x.instantiate(6, 0, 0), 8);
        check.due("last", x.instantiate(5, 0, 0), 12);
    }

    private static void collectsWhenNoEntryIsFree() {
        CountedObjects x = new CountedObjects(40, 2);
        x.instantiate(0, 0, 1);
        x.instantiate(1, 0, 1);
        x.store(4, 0, 4);
        x.set(1, 0);
        check.due("by collecting", x.instantiate(1, 0, 0), 4);
        check.due("fields(4)", x.fields(4), 0);
        refuses(x, Check.STATE, 3, 0, 0);
    }

    private static void collectsWhenWordsCannotBePlaced() {
        CountedObjects x = new CountedObjects(16, 6);
        x.instantiate(0, 0, 6);
        x.store(2, 0, 2);
        x.instantiate(1, 0, 2);
        x.set(0, 0);
        check.due("by collecting", x.instantiate(2, 0, 6), 2);
        check.due("address(2)", x.address(2), 0);
        check.due("address(4)", x.address(4), 8);
        check.due("chunks(4)", x.chunks(4), 1);
        refuses(x, Check.STATE, 3, 0, 3);
    }

    private static void entryIsTheLeastAfterCollecting() {
        CountedObjects x = new CountedObjects(16, 6);
        x.instantiate(0, 0, 2);
        x.instantiate(1, 0, 2);
        x.instantiate(2, 0, 2);
        x.store(4, 0, 4);
        x.set(1, 0);
        check.due("not 8, that was free before", x.instantiate(3, 0, 5), 4);
    }

    private static void compactsBeforeItCollects() {
        CountedObjects x = new CountedObjects(16, 6);
        x.instantiate(0, 0, 1);
        x.instantiate(1, 0, 1);
        x.instantiate(2, 0, 1);
        x.instantiate(3, 0, 5);
        x.store(4, 0, 4);
        x.set(1, 0);
        x.set(0, 0);
        x.set(2, 0);
        check.due("by compacting alone", x.instantiate(0, 0, 4), 2);
        check.due("4 is left, though nothing leads to it", x.address(4), 0);
        check.due("address(8)", x.address(8), 3);
        check.due("address(2)", x.address(2), 10);
    }

    private static void collectsAndThenCompacts() {
        CountedObjects x = new CountedObjects(16, 6);
        x.instantiate(0, 0, 2);
        x.instantiate(1, 0, 2);
        x.instantiate(2, 0, 2);
        x.instantiate(3, 0, 2);
        x.store(2, 0, 2);
        x.store(6, 0, 6);
        x.set(0, 0);
        x.set(2, 0);
        check.due("by both", x.instantiate(4, 0, 6), 2);
        check.due("address(4)", x.address(4), 0);
        check.due("address(8)", x.address(8), 4);
        check.due("address(2)", x.address(2), 8);
        check.due("free()", x.free(), 0);
    }

    private static CountedObjects withLooseCycle() {
        CountedObjects x = new CountedObjects(40, 2);
        x.instantiate(0, 0, 1);
        x.instantiate(1, 2, 1);
        x.store(2, 0, 4);
        x.set(0, 0);
        x.set(1, 0);
        return x;
    }

    private static void typeIsLookedAt() {
        CountedObjects x = withLooseCycle();
        refuses(x, Check.STATE, 0, 4, 1);
        refuses(x, Check.STATE, 0, 2, 1);
        check.due("a number leads to nothing", x.instantiate(0, 3, 1), 2);
        check.due("objects()", x.objects(), 1);
    }

    private static void typeIsLeftWithTheCountNothing() {
        CountedObjects x = fullAndForgotten();
        check.dueThrow("no room", Check.STATE, () -> x.instantiate(1, 4, 15));
        check.due("exists(4)", x.exists(4), true);
        check.due("count(4)", x.count(4), 0);
        check.due("set", x.set(1, 4), 0);
        check.due("count(4) in a register", x.count(4), 1);
        check.due("set back", x.set(1, 0), 4);
        check.due("let go now", x.exists(4), false);
        CountedObjects y = fullAndForgotten();
        check.due("with room it is a class", y.instantiate(0, 4, 10), 6);
        check.due("its count was not looked at", y.count(4), 7);
    }

    /** The object 4 is full, but nothing refers to it; 2 is in register 0, and 4 words are free. */
    private static CountedObjects fullAndForgotten() {
        CountedObjects x = new CountedObjects(20, 4);
        x.instantiate(0, 0, 0);
        x.instantiate(1, 0, 2);
        for (int r = 2; r < 8; r++) {
            x.set(r, 4);
        }
        for (int r = 1; r < 8; r++) {
            x.set(r, 0);
        }
        check.due("full", x.count(4), 7);
        return x;
    }

    private static void whatLeadsFromTypeIsLeft() {
        CountedObjects x = new CountedObjects(16, 5);
        x.instantiate(0, 0, 1);
        x.instantiate(1, 2, 1);
        x.instantiate(2, 0, 2);
        x.store(4, 0, 4);
        x.store(6, 0, 6);
        x.store(6, 1, 4);
        x.set(0, 0);
        x.set(1, 0);
        x.set(2, 0);
        check.due("made", x.instantiate(5, 4, 5), 6);
        check.due("state", Picture.of(x), "0 0 0 0 0 6 0 0 "
                + "; 2 at 0 count 1 class 0 (0); 4 at 3 count 2 class 2 (4); 6 at 6 count 1 class 4 (0 0 0 0 0)"
                + "; chunks 1*0 1*3; free 3, objects 3");
    }

    private static void collectingStaysWhenThereIsNoRoom() {
        CountedObjects x = new CountedObjects(20, 5);
        x.instantiate(0, 0, 2);
        x.instantiate(1, 0, 2);
        x.instantiate(2, 0, 2);
        x.store(4, 0, 4);
        x.set(1, 0);
        check.dueThrow("no room", Check.STATE, () -> x.instantiate(1, 0, 11));
        check.due("state", Picture.of(x), "2 0 6 0 0 0 0 0 "
                + "; 2 at 0 count 1 class 0 (0 0); 6 at 8 count 1 class 0 (0 0)"
                + "; chunks 2*0 1*4 1*8; free 12, objects 2");
    }

    private static void doesNotCompactInVain() {
        CountedObjects x = new CountedObjects(16, 3);
        x.instantiate(0, 0, 2);
        x.instantiate(1, 0, 2);
        x.set(0, 0);
        refuses(x, Check.STATE, 0, 0, 11);
        refuses(x, Check.STATE, 0, 0, 20);
        check.due("address(4)", x.address(4), 4);
        check.due("just room enough", x.instantiate(0, 0, 10), 2);
        check.due("address(4)", x.address(4), 0);
    }
}
