/** Promise 2, where there is no room at first, or none at all; what stands in quotes is the document's. */
public final class NoRoomTest {
    private static final Check check = new Check();

    public static void main(String[] args) {
        noEntryIsFree();
        noEntryIsFreeThen();
        noEntryAndTooFewWords();
        noEntryAndWordsApart();
        wordsCannotBePlaced();
        justEnoughWordsAreCompacted();
        oneWordTooFewIsCollected();
        collectedAndCompacted();
        oneWordTooFewThen();
        moreThanAllWords();
        entryIsTheLeastThen();
        oldValueIsStillARegister();
        typeIsLookedAt();
        typeLeadsByClassesAndFields();
        typeIsNoReference();
        typeLeftWithNothingMayBeUsed();
        typeLeftWithNothingIsTakenNext();
        typeIsAReferenceWhenThereIsRoom();
        collectedStays();
        countsToldAnewStay();
        noRoomTwiceIsNoChange();
        check.end();
    }

    private static void noRoom(String what, CountedObjects x, int r, int type, int n) {
        check.dueThrow(what, x, Check.STATE, y -> y.instantiate(r, type, n));
    }

    /** "when no entry is free, it is collected" */
    private static void noEntryIsFree() {
        CountedObjects x = Memory.row(40, 2, 3, 3);
        Memory.loosen(x, 1);
        check.due("by collecting", x.instantiate(1, 0, 0), 4);
        check.due("fields(4)", x.fields(4), 0);
        check.due("address(4)", x.address(4), 3);
        check.due("chunks(1)", x.chunks(1), 1);
    }

    /** "and there is no room if none is free then" */
    private static void noEntryIsFreeThen() {
        check.dueRefused("no entry of two", () -> Memory.row(40, 2, 3, 3), Check.STATE, x -> x.instantiate(2, 0, 0));
        CountedObjects x = new CountedObjects(400, 40);
        for (int i = 0; i < 40; i++) {
            Memory.made(x, 2);
        }
        noRoom("no entry of forty", x, 0, 0, 0);
        check.due("objects()", x.objects(), 40);
        check.due("free()", x.free(), 320);
    }

    private static void noEntryAndTooFewWords() {
        CountedObjects x = Memory.row(20, 3, 6, 6, 6);
        Memory.loosen(x, 1);
        noRoom("nine words of eight", x, 1, 0, 7);
        check.due("collected for the entry", x.objects(), 2);
        check.due("not compacted", x.address(6), 12);
        check.due("eight words of eight", x.instantiate(1, 0, 6), 4);
        check.due("compacted", x.address(6), 6);
    }

    private static void noEntryAndWordsApart() {
        CountedObjects x = Memory.row(20, 3, 6, 6, 6);
        Memory.loosen(x, 1);
        check.due("eight words of six and two", x.instantiate(1, 0, 6), 4);
        check.due("address(2)", x.address(2), 0);
        check.due("address(6)", x.address(6), 6);
        check.due("address(4)", x.address(4), 12);
        check.due("chunks(0)", x.chunks(0), 0);
    }

    /** "when n + 2 words cannot be placed, it is collected" */
    private static void wordsCannotBePlaced() {
        CountedObjects x = Memory.row(16, 6, 8, 4);
        Memory.loosen(x, 0);
        check.due("by collecting", x.instantiate(2, 0, 6), 2);
        check.due("address(2)", x.address(2), 0);
        check.due("address(4)", x.address(4), 8);
        check.due("chunks(4)", x.chunks(4), 1);
    }

    /** Four chunks of 4, 4, 4 and 4 words lie between objects, one of which nothing leads to. */
    private static CountedObjects apart() {
        CountedObjects x = Memory.row(29, 9, 4, 3, 4, 5, 4, 5, 4);
        Memory.loosen(x, 1);
        Memory.clear(x, 0, 2, 4, 6);
        return x;
    }

    /** "when all free words together are s or more, the memory is compacted" */
    private static void justEnoughWordsAreCompacted() {
        CountedObjects x = apart();
        check.due("16 words of 16", x.instantiate(0, 0, 14), 2);
        check.dueState("by compacting alone", x, "2 0 0 8 0 12 0 0 "
                + "; 2 at 13 count 1 class 0 (0 0 0 0 0 0 0 0 0 0 0 0 0 0)"
                + "; 4 at 0 count 1 class 0 (4); 8 at 3 count 1 class 0 (0 0 0); 12 at 8 count 1 class 0 (0 0 0)"
                + "; chunks; free 0, objects 4");
    }

    private static void oneWordTooFewIsCollected() {
        CountedObjects x = apart();
        check.due("17 words of 16", x.instantiate(0, 0, 15), 2);
        check.due("4 was taken away", x.exists(4), false);
        check.due("address(8)", x.address(8), 0);
        check.due("address(12)", x.address(12), 5);
        check.due("address(2)", x.address(2), 10);
        check.due("chunks(2)", x.chunks(2), 1);
    }

    private static void collectedAndCompacted() {
        CountedObjects x = Memory.row(16, 6, 4, 4, 4, 4);
        Memory.loosen(x, 0);
        Memory.loosen(x, 2);
        check.due("by both", x.instantiate(4, 0, 6), 2);
        check.due("address(4)", x.address(4), 0);
        check.due("address(8)", x.address(8), 4);
        check.due("address(2)", x.address(2), 8);
        check.due("free()", x.free(), 0);
    }

    /** "and there is no room if they cannot be placed then" */
    private static void oneWordTooFewThen() {
        CountedObjects x = apart();
        noRoom("20 words of 19", x, 0, 0, 18);
        check.dueState("collected, but not compacted", x, "0 0 0 8 0 12 0 0 "
                + "; 8 at 11 count 1 class 0 (0 0 0); 12 at 20 count 1 class 0 (0 0 0)"
                + "; chunks 5*0 1*3 4*4; free 19, objects 2");
        check.due("19 words of 19", x.instantiate(0, 0, 17), 2);
        check.due("free()", x.free(), 0);
    }

    private static void moreThanAllWords() {
        check.dueRefused("22 words of 21", () -> new CountedObjects(21, 2), Check.STATE, x -> x.instantiate(0, 0, 20));
        CountedObjects x = new CountedObjects(22, 2);
        check.due("22 words of 22", x.instantiate(0, 0, 20), 2);
        check.due("chunks(0)", x.chunks(0), 0);
        noRoom("two words of none", x, 1, 0, 0);
    }

    /** "with the least free entry": of those that are free when it is made */
    private static void entryIsTheLeastThen() {
        CountedObjects x = Memory.row(16, 6, 4, 4, 4);
        Memory.loosen(x, 1);
        check.due("not 8, that was free before", x.instantiate(3, 0, 5), 4);
    }

    /** It comes into the register when it is made; until then the old one is there and is left. */
    private static void oldValueIsStillARegister() {
        check.dueRefused("its words would do", () -> Memory.row(16, 4, 10), Check.STATE, x -> x.instantiate(0, 0, 5));
        check.dueRefused("its entry would do", () -> Memory.row(16, 2, 2, 2), Check.STATE, x -> x.instantiate(1, 0, 0));
    }

    /** "type counts as a register that is looked at" */
    private static void typeIsLookedAt() {
        noRoom("2 is kept", twoLoose(), 2, 2, 9);
        CountedObjects x = twoLoose();
        check.due("2 is kept and 4 is taken", x.instantiate(2, 2, 6), 4);
        check.due("type(4)", x.type(4), 2);
        CountedObjects y = twoLoose();
        check.due("4 is kept and 2 is taken", y.instantiate(2, 4, 6), 2);
        check.due("type(2)", y.type(2), 4);
        CountedObjects z = twoLoose();
        check.due("a number leads to none", z.instantiate(2, 3, 12), 2);
        check.due("objects()", z.objects(), 1);
        CountedObjects w = twoLoose();
        check.due("nothing leads to none", w.instantiate(2, 0, 12), 2);
        check.due("objects()", w.objects(), 1);
    }

    /** Two objects of eight words, and no more words; nothing leads to either. */
    private static CountedObjects twoLoose() {
        CountedObjects x = Memory.row(16, 3, 8, 8);
        Memory.loosen(x, 0);
        Memory.loosen(x, 1);
        return x;
    }

    private static void typeLeadsByClassesAndFields() {
        CountedObjects x = new CountedObjects(16, 6);
        x.instantiate(0, 0, 0);
        x.instantiate(1, 2, 1);
        x.instantiate(2, 0, 2);
        x.instantiate(3, 0, 1);
        x.store(4, 0, 9);
        x.store(6, 1, 4);
        Memory.clear(x, 0, 1);
        Memory.loosen(x, 2);
        Memory.loosen(x, 3);
        noRoom("eight words of seven", x, 0, 6, 6);
        check.dueState("8 was taken, and 6, 4 and 2 are left", x, "0 0 0 0 0 0 0 0 "
                + "; 2 at 0 count 1 class 0 (); 4 at 2 count 1 class 2 (9); 6 at 5 count 1 class 0 (6 4)"
                + "; chunks 2*0 1*3 1*4; free 7, objects 3");
    }

    /** Nothing refers to 4, but it is full; 2 is in register 0, and two words are free. */
    private static CountedObjects forgotten() {
        CountedObjects x = Memory.row(20, 4, 10, 8);
        Memory.forget(x, 1);
        return x;
    }

    /** "(but is no reference: an object may be left with the count 0 when there is no room then)" */
    private static void typeIsNoReference() {
        CountedObjects x = forgotten();
        check.due("count(4)", x.count(4), 7);
        noRoom("three words of two", x, 1, 4, 1);
        check.dueState("left with the count 0", x, "2 0 0 0 0 0 0 0 "
                + "; 2 at 0 count 1 class 0 (0 0 0 0 0 0 0 0); 4 at 10 count 0 class 0 (0 0 0 0 0 0)"
                + "; chunks 1*0 1*2; free 2, objects 2");
    }

    private static CountedObjects leftWithNothing() {
        CountedObjects x = forgotten();
        noRoom("three words of two", x, 1, 4, 1);
        return x;
    }

    private static void typeLeftWithNothingMayBeUsed() {
        CountedObjects x = leftWithNothing();
        check.due("set", x.set(1, 4), 0);
        check.due("count(4) in a register", x.count(4), 1);
        check.due("set back", x.set(1, 0), 4);
        check.due("let go now", x.exists(4), false);
        CountedObjects y = leftWithNothing();
        check.due("store", y.store(4, 5, 4), 0);
        check.due("count(4) in a field", y.count(4), 1);
        check.due("store back", y.store(4, 5, 0), 4);
        check.due("let go now", y.exists(4), false);
        CountedObjects z = leftWithNothing();
        check.due("a class", z.instantiate(1, 4, 0), 6);
        check.due("count(4) in a class", z.count(4), 1);
        z.set(1, 0);
        check.due("let go now", z.exists(4), false);
    }

    private static void typeLeftWithNothingIsTakenNext() {
        CountedObjects x = leftWithNothing();
        check.due("collect()", x.collect(), 1);
        check.due("exists(4)", x.exists(4), false);
        CountedObjects y = leftWithNothing();
        noRoom("asked for again, with another class", y, 1, 0, 9);
        check.due("exists(4)", y.exists(4), false);
    }

    private static void typeIsAReferenceWhenThereIsRoom() {
        CountedObjects x = Memory.row(24, 4, 10, 8, 6);
        Memory.forget(x, 1);
        Memory.loosen(x, 2);
        check.due("made where 6 was", x.instantiate(1, 4, 4), 6);
        check.due("count(4) is told anew, and its class came", x.count(4), 1);
        check.due("address(6)", x.address(6), 18);
        CountedObjects y = forgotten();
        check.due("made without collecting", y.instantiate(1, 4, 0), 6);
        check.due("count(4) is full yet", y.count(4), 7);
    }

    /** "What was collected and compacted stays so" */
    private static void collectedStays() {
        CountedObjects x = Memory.row(20, 5, 4, 4, 4);
        Memory.loosen(x, 1);
        noRoom("13 words of 12", x, 1, 0, 11);
        check.dueState("4 was taken", x, "2 0 6 0 0 0 0 0 "
                + "; 2 at 0 count 1 class 0 (0 0); 6 at 8 count 1 class 0 (0 0)"
                + "; chunks 2*0 1*4 1*8; free 12, objects 2");
    }

    private static void countsToldAnewStay() {
        CountedObjects x = Memory.row(40, 2, 8, 8);
        Memory.forget(x, 1);
        x.set(1, 4);
        check.due("count(4)", x.count(4), 7);
        noRoom("no entry", x, 2, 0, 0);
        check.due("count(4) told anew for want of an entry", x.count(4), 1);
        CountedObjects y = Memory.row(16, 9, 8, 8);
        Memory.forget(y, 1);
        y.set(1, 4);
        noRoom("no words", y, 2, 0, 0);
        check.due("count(4) told anew for want of words", y.count(4), 1);
    }

    /** "otherwise a call that throws changes nothing" */
    private static void noRoomTwiceIsNoChange() {
        check.dueRefused("once more for want of words", () -> {
            CountedObjects x = apart();
            noRoom("once", x, 0, 0, 18);
            return x;
        }, Check.STATE, x -> x.instantiate(0, 0, 18));
        check.dueRefused("once more, the class having the count 0", NoRoomTest::leftWithNothing, Check.STATE,
                x -> x.instantiate(1, 4, 1));
    }
}
