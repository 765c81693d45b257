/** Promises 5 to 8. */
public final class FieldsTest {
    private static final Check check = new Check();
    private static final int[] NO_OBJECTS =
            {0, 1, 3, -1, -2, -4, 6, 8, 82, Integer.MIN_VALUE, Integer.MAX_VALUE, Integer.MAX_VALUE - 1};

    public static void main(String[] args) {
        holdValues();
        refuseWhatIsNoObject();
        refuseWrongFieldsAndValues();
        newComesBeforeOldGoes();
        ownerMayBeLetGoByItsOldField();
        check.end();
    }

    private static CountedObjects withTwo() {
        CountedObjects x = new CountedObjects(40, 4);
        x.instantiate(0, 11, 3);
        x.instantiate(1, 2, 0);
        return x;
    }

    private static void holdValues() {
        CountedObjects x = withTwo();
        int[] values = {4, 1, -1, 2, Integer.MAX_VALUE, Integer.MIN_VALUE + 1, 0};
        int had = 0;
        for (int v : values) {
            check.due("store(2, 2, " + v + ")", x.store(2, 2, v), had);
            check.due("fetch(2, 2)", x.fetch(2, 2), v);
            had = v;
        }
        x.store(2, 0, 5);
        x.store(2, 1, 4);
        check.due("state", Picture.of(x), "2 4 0 0 0 0 0 0 "
                + "; 2 at 0 count 2 class 11 (5 4 0); 4 at 5 count 2 class 2 ()"
                + "; chunks 1*0 1*33; free 33, objects 2");
        check.due("type(2)", x.type(2), 11);
        check.due("type(4)", x.type(4), 2);
        check.due("fields(2)", x.fields(2), 3);
        check.due("fields(4)", x.fields(4), 0);
    }

    private static void refuseWhatIsNoObject() {
        CountedObjects x = withTwo();
        for (int o : NO_OBJECTS) {
            check.dueThrowAndNoChange("fetch(" + o + ", 0)", x, Check.ARGUMENT, () -> x.fetch(o, 0));
            check.dueThrowAndNoChange("fetch(" + o + ", -1)", x, Check.ARGUMENT, () -> x.fetch(o, -1));
            check.dueThrowAndNoChange("store(" + o + ", 0, 0)", x, Check.ARGUMENT, () -> x.store(o, 0, 0));
            check.dueThrowAndNoChange("store(" + o + ", 9, 0)", x, Check.ARGUMENT, () -> x.store(o, 9, 0));
            check.dueThrowAndNoChange("type(" + o + ")", x, Check.ARGUMENT, () -> x.type(o));
            check.dueThrowAndNoChange("fields(" + o + ")", x, Check.ARGUMENT, () -> x.fields(o));
        }
    }

    private static void refuseWrongFieldsAndValues() {
        CountedObjects x = withTwo();
        int[] noFields = {-1, 3, 4, Integer.MIN_VALUE, Integer.MAX_VALUE};
        for (int k : noFields) {
            check.dueThrowAndNoChange("fetch(2, " + k + ")", x, Check.INDEX, () -> x.fetch(2, k));
            check.dueThrowAndNoChange("store(2, " + k + ", 0)", x, Check.INDEX, () -> x.store(2, k, 0));
            check.dueThrowAndNoChange("store(2, " + k + ", 6)", x, Check.INDEX, () -> x.store(2, k, 6));
        }
        check.dueThrowAndNoChange("fetch(4, 0)", x, Check.INDEX, () -> x.fetch(4, 0));
        int[] noValues = {6, 8, 82, -2, Integer.MIN_VALUE, Integer.MAX_VALUE - 1};
        for (int v : noValues) {
            check.dueThrowAndNoChange("store(2, 0, " + v + ")", x, Check.ARGUMENT, () -> x.store(2, 0, v));
        }
    }

    private static void newComesBeforeOldGoes() {
        CountedObjects x = new CountedObjects(40, 4);
        x.instantiate(0, 0, 1);
        x.instantiate(1, 0, 1);
        x.instantiate(2, 0, 0);
        x.store(2, 0, 4);
        x.store(4, 0, 6);
        x.set(1, 0);
        x.set(2, 0);
        check.due("by itself", x.store(2, 0, 4), 4);
        check.due("count(4)", x.count(4), 1);
        check.due("by what only the old one had", x.store(2, 0, 6), 4);
        check.due("exists(4)", x.exists(4), false);
        check.due("count(6)", x.count(6), 1);
        for (int r = 1; r < 6; r++) {
            x.set(r, 6);
        }
        x.store(2, 0, 6);
        check.due("it was full for a moment", x.count(6), 7);
    }

    private static void ownerMayBeLetGoByItsOldField() {
        CountedObjects x = new CountedObjects(40, 4);
        x.instantiate(0, 0, 2);
        x.instantiate(1, 2, 1);
        x.instantiate(2, 0, 3);
        x.store(2, 1, 4);
        x.set(0, 0);
        x.set(1, 0);
        check.due("it lets go 4, that lets go 2, that lets 6 be", x.store(2, 1, 6), 4);
        check.due("state", Picture.of(x), "0 0 6 0 0 0 0 0 ; 6 at 7 count 1 class 0 (0 0 0)"
                + "; chunks 3*0 1*3 1*4 1*28; free 35, objects 1");
    }
}
