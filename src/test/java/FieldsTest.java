/** Promises 5 to 8; what stands in quotes is the document's. */
public final class FieldsTest {
    private static final Check check = new Check();

    public static void main(String[] args) {
        holdEveryKindOfValue();
        firstAndLastField();
        standForThemselves();
        tellTypeAndFields();
        refuseWhatIsNoObject();
        refuseWhatIsNoField();
        refuseWhatIsNoValue();
        storeLooksInOrder();
        sameValueAgain();
        sameValueMayBeFullForAMoment();
        valueThatOnlyTheOldOneHad();
        answersWhatWasLetGo();
        ownerInItsOwnField();
        ownerMayBeLetGoByItsOldField();
        ownerMayTakeTheNewValueAlong();
        check.end();
    }

    /** "Answers the one it had, as set()." */
    private static void holdEveryKindOfValue() {
        CountedObjects x = Memory.row(40, 4, 5, 2);
        int[] values = {4, 1, -1, 2, 3, -3, Integer.MAX_VALUE, Integer.MIN_VALUE + 1, 0, 0};
        int had = 0;
        for (int v : values) {
            check.due("store(2, 2, " + v + ")", x.store(2, 2, v), had);
            check.due("fetch(2, 2)", x.fetch(2, 2), v);
            had = v;
        }
    }

    private static void firstAndLastField() {
        CountedObjects x = Memory.row(50, 4, 3, 22);
        check.due("of one field", x.store(2, 0, 5), 0);
        check.due("the first of 20", x.store(4, 0, 7), 0);
        check.due("the last of 20", x.store(4, 19, 9), 0);
        check.due("fetch(2, 0)", x.fetch(2, 0), 5);
        check.due("fetch(4, 0)", x.fetch(4, 0), 7);
        check.due("fetch(4, 19)", x.fetch(4, 19), 9);
        check.dueThrow("no field behind one", x, Check.INDEX, y -> y.fetch(2, 1));
        check.dueThrow("no field behind 20", x, Check.INDEX, y -> y.fetch(4, 20));
        check.dueThrow("no place behind one", x, Check.INDEX, y -> y.store(2, 1, 1));
        check.dueThrow("no place behind 20", x, Check.INDEX, y -> y.store(4, 20, 1));
    }

    private static void standForThemselves() {
        CountedObjects x = Memory.row(40, 4, 5, 4);
        for (int k = 0; k < 3; k++) {
            x.store(2, k, 2 * k + 11);
        }
        x.store(4, 0, 2);
        x.store(4, 1, 4);
        check.dueState("all fields", x, "2 4 0 0 0 0 0 0 "
                + "; 2 at 0 count 2 class 0 (11 13 15); 4 at 5 count 2 class 0 (2 4)"
                + "; chunks 1*0 1*31; free 31, objects 2");
    }

    private static void tellTypeAndFields() {
        CountedObjects x = new CountedObjects(60, 4);
        x.instantiate(0, 0, 0);
        x.instantiate(1, 2, 1);
        x.instantiate(2, Integer.MIN_VALUE + 1, 20);
        check.due("type(2)", x.type(2), 0);
        check.due("type(4)", x.type(4), 2);
        check.due("type(6)", x.type(6), Integer.MIN_VALUE + 1);
        check.due("fields(2)", x.fields(2), 0);
        check.due("fields(4)", x.fields(4), 1);
        check.due("fields(6)", x.fields(6), 20);
    }

    /** 2 has three fields, 4 has none; 6 was let go, and 8 never was. */
    private static CountedObjects withTwo() {
        CountedObjects x = Memory.row(40, 4, 5, 2, 3);
        x.store(2, 2, 7);
        x.set(2, 0);
        return x;
    }

    private static void refused(String what, String want, Check.Call call) {
        check.dueRefused(what, FieldsTest::withTwo, want, call);
    }

    /** "IllegalArgumentException when o is no object" */
    private static void refuseWhatIsNoObject() {
        for (int o : Memory.NO_OBJECTS) {
            refuseObject(o);
        }
        refuseObject(6);
        refuseObject(8);
        refuseObject(10);
    }

    private static void refuseObject(int o) {
        refused("fetch(" + o + ", 0)", Check.ARGUMENT, x -> x.fetch(o, 0));
        refused("store(" + o + ", 0, 0)", Check.ARGUMENT, x -> x.store(o, 0, 0));
        refused("type(" + o + ")", Check.ARGUMENT, x -> x.type(o));
        refused("fields(" + o + ")", Check.ARGUMENT, x -> x.fields(o));
    }

    /** "IndexOutOfBoundsException when it has no such field" */
    private static void refuseWhatIsNoField() {
        int[] noFields = {-1, -2, -3, 3, 4, 38, 40, Integer.MIN_VALUE, Integer.MAX_VALUE};
        for (int k : noFields) {
            refused("fetch(2, " + k + ")", Check.INDEX, x -> x.fetch(2, k));
            refused("store(2, " + k + ", 0)", Check.INDEX, x -> x.store(2, k, 0));
        }
        refused("fetch(4, 0), it has none", Check.INDEX, x -> x.fetch(4, 0));
        refused("store(4, 0, 0), it has none", Check.INDEX, x -> x.store(4, 0, 0));
    }

    private static void refuseStore(int v) {
        refused("store(2, 0, " + v + ")", Check.ARGUMENT, x -> x.store(2, 0, v));
    }

    /** "IllegalArgumentException when v is no value" */
    private static void refuseWhatIsNoValue() {
        for (int v : Memory.NO_VALUES) {
            refuseStore(v);
        }
        refuseStore(6);
        refuseStore(8);
        refuseStore(10);
    }

    /** The object is looked at first, then the field, then the value. */
    private static void storeLooksInOrder() {
        refused("no object and no field", Check.ARGUMENT, x -> x.fetch(6, -1));
        refused("no object, no field, a value", Check.ARGUMENT, x -> x.store(6, -1, 0));
        refused("no object, no field, no value", Check.ARGUMENT, x -> x.store(6, -1, 6));
        refused("an object, no field, no value", Check.INDEX, x -> x.store(2, 3, 6));
        refused("an object without fields, no value", Check.INDEX, x -> x.store(4, 0, 6));
    }

    /** "the new reference comes before the old one goes" */
    private static void sameValueAgain() {
        CountedObjects x = Memory.row(40, 4, 3, 3);
        x.store(2, 0, 4);
        x.set(1, 0);
        check.due("store(2, 0, 4)", x.store(2, 0, 4), 4);
        check.due("exists(4)", x.exists(4), true);
        check.due("count(4)", x.count(4), 1);
    }

    private static void sameValueMayBeFullForAMoment() {
        CountedObjects x = Memory.row(40, 4, 8, 2);
        for (int k = 0; k < 5; k++) {
            x.store(2, k, 4);
        }
        check.due("count(4)", x.count(4), 6);
        x.store(2, 0, 4);
        check.due("count(4), it was full and stays", x.count(4), 7);
    }

    private static void valueThatOnlyTheOldOneHad() {
        CountedObjects x = Memory.row(40, 4, 3, 3, 2);
        x.store(2, 0, 4);
        x.store(4, 0, 6);
        Memory.clear(x, 1, 2);
        check.due("store(2, 0, 6)", x.store(2, 0, 6), 4);
        check.due("exists(4)", x.exists(4), false);
        check.due("exists(6)", x.exists(6), true);
        check.due("count(6)", x.count(6), 1);
    }

    private static void answersWhatWasLetGo() {
        CountedObjects x = Memory.row(40, 4, 3, 2);
        x.store(2, 0, 4);
        x.set(1, 0);
        check.due("store(2, 0, 1)", x.store(2, 0, 1), 4);
        check.due("exists(4)", x.exists(4), false);
        check.due("fetch(2, 0)", x.fetch(2, 0), 1);
    }

    private static void ownerInItsOwnField() {
        CountedObjects x = Memory.row(40, 4, 4);
        x.store(2, 0, 2);
        x.store(2, 1, 2);
        x.set(0, 0);
        check.due("count(2)", x.count(2), 2);
        check.due("store(2, 0, 0)", x.store(2, 0, 0), 2);
        check.due("count(2)", x.count(2), 1);
        check.due("the last reference was its own", x.store(2, 1, 9), 2);
        check.due("exists(2)", x.exists(2), false);
        check.due("free()", x.free(), 40);
    }

    private static void ownerMayBeLetGoByItsOldField() {
        CountedObjects x = new CountedObjects(40, 4);
        x.instantiate(0, 0, 2);
        x.instantiate(1, 2, 1);
        x.instantiate(2, 0, 3);
        x.store(2, 1, 4);
        Memory.clear(x, 0, 1);
        check.due("it lets go 4, that lets go 2, that lets 6 be", x.store(2, 1, 6), 4);
        check.dueState("6 is left", x, "0 0 6 0 0 0 0 0 ; 6 at 7 count 1 class 0 (0 0 0)"
                + "; chunks 3*0 1*3 1*4 1*28; free 35, objects 1");
    }

    /** The field has the new value when the old one goes, so that it goes with the owner's fields. */
    private static void ownerMayTakeTheNewValueAlong() {
        CountedObjects x = new CountedObjects(40, 4);
        x.instantiate(0, 0, 1);
        x.instantiate(1, 2, 1);
        x.instantiate(2, 0, 0);
        x.store(2, 0, 4);
        x.store(4, 0, 6);
        Memory.clear(x, 0, 1, 2);
        check.due("6 was in 4, and is in 2 for a moment", x.store(2, 0, 6), 4);
        check.due("objects()", x.objects(), 0);
        check.due("free()", x.free(), 40);
    }
}
