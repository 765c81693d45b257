/** Promises 3 and 4. */
public final class RegistersTest {
    private static final Check check = new Check();

    public static void main(String[] args) {
        holdsValues();
        refusesWrongArguments();
        newComesBeforeOldGoes();
        answersWhatWasLetGo();
        check.end();
    }

    private static void holdsValues() {
        CountedObjects x = new CountedObjects(20, 3);
        x.instantiate(3, 0, 0);
        int[] values = {2, 1, -1, Integer.MAX_VALUE, Integer.MIN_VALUE + 1, 0};
        for (int r = 0; r < 8; r += 7) {
            int had = 0;
            for (int v : values) {
                check.due("set(" + r + ", " + v + ")", x.set(r, v), had);
                check.due("register(" + r + ")", x.register(r), v);
                had = v;
            }
        }
        check.due("register(3)", x.register(3), 2);
        check.due("count(2)", x.count(2), 1);
    }

    private static void refusesWrongArguments() {
        CountedObjects x = new CountedObjects(20, 3);
        x.instantiate(0, 0, 0);
        int[] noRegisters = {-1, 8, Integer.MIN_VALUE, Integer.MAX_VALUE};
        for (int r : noRegisters) {
            check.dueThrowAndNoChange("set(" + r + ", 0)", x, Check.INDEX, () -> x.set(r, 0));
            check.dueThrowAndNoChange("set(" + r + ", 4)", x, Check.INDEX, () -> x.set(r, 4));
            check.dueThrowAndNoChange("register(" + r + ")", x, Check.INDEX, () -> x.register(r));
        }
        int[] noValues = {4, 6, 8, -2, 82, Integer.MIN_VALUE, Integer.MAX_VALUE - 1};
        for (int v : noValues) {
            check.dueThrowAndNoChange("set(0, " + v + ")", x, Check.ARGUMENT, () -> x.set(0, v));
        }
    }

    private static void newComesBeforeOldGoes() {
        CountedObjects x = new CountedObjects(20, 3);
        x.instantiate(0, 0, 1);
        check.due("by itself", x.set(0, 2), 2);
        check.due("count(2)", x.count(2), 1);
        x.instantiate(1, 0, 0);
        x.store(2, 0, 4);
        x.set(1, 0);
        check.due("by what only the old one had", x.set(0, 4), 2);
        check.due("exists(2)", x.exists(2), false);
        check.due("count(4)", x.count(4), 1);
        for (int r = 1; r < 6; r++) {
            x.set(r, 4);
        }
        check.due("count(4)", x.count(4), 6);
        x.set(0, 4);
        check.due("it was full for a moment", x.count(4), 7);
    }

    private static void answersWhatWasLetGo() {
        CountedObjects x = new CountedObjects(20, 3);
        x.instantiate(0, 0, 1);
        check.due("set(0, 7)", x.set(0, 7), 2);
        check.due("exists(2)", x.exists(2), false);
        check.dueThrowAndNoChange("it is no value now", x, Check.ARGUMENT, () -> x.set(0, 2));
    }
}
