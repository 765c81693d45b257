/** Promises 3 and 4; what stands in quotes is the document's. */
public final class RegistersTest {
    private static final Check check = new Check();

    public static void main(String[] args) {
        holdEveryKindOfValue();
        standForThemselves();
        refuseWhatIsNoRegister();
        refuseWhatIsNoValue();
        registerIsLookedAtFirst();
        sameValueAgain();
        sameValueMayBeFullForAMoment();
        valueThatOnlyTheOldOneHad();
        answersWhatWasLetGo();
        fullOneIsNotLetGo();
        check.end();
    }

    /** "Answers the one it had, as a number" */
    private static void holdEveryKindOfValue() {
        int[] values = {2, 1, -1, 3, -3, Integer.MAX_VALUE, Integer.MIN_VALUE + 1, 0, 0};
        for (int r = 0; r < 8; r += 7) {
            CountedObjects x = Memory.row(20, 3, 2);
            x.set(3, 2);
            int had = x.register(r);
            for (int v : values) {
                check.due("set(" + r + ", " + v + ")", x.set(r, v), had);
                check.due("register(" + r + ")", x.register(r), v);
                had = v;
            }
        }
    }

    private static void standForThemselves() {
        CountedObjects x = new CountedObjects(20, 3);
        for (int r = 0; r < 8; r++) {
            check.due("set(" + r + ")", x.set(r, 2 * r + 1), 0);
        }
        for (int r = 0; r < 8; r++) {
            check.due("register(" + r + ")", x.register(r), 2 * r + 1);
        }
    }

    /** Of three entries 2 is an object, 4 was one, and 6 never was. */
    private static CountedObjects withOne() {
        CountedObjects x = Memory.row(20, 3, 3, 2);
        x.set(1, 5);
        return x;
    }

    /** "IndexOutOfBoundsException when there is no such register", "when there is none" */
    private static void refuseWhatIsNoRegister() {
        for (int r : Memory.NO_REGISTERS) {
            check.dueRefused("set(" + r + ", 2)", RegistersTest::withOne, Check.INDEX, x -> x.set(r, 2));
            check.dueRefused("register(" + r + ")", RegistersTest::withOne, Check.INDEX, x -> x.register(r));
        }
    }

    private static void refuseSet(int v) {
        check.dueRefused("set(0, " + v + ")", RegistersTest::withOne, Check.ARGUMENT, x -> x.set(0, v));
    }

    /** "IllegalArgumentException when v is no value" */
    private static void refuseWhatIsNoValue() {
        for (int v : Memory.NO_VALUES) {
            refuseSet(v);
        }
        refuseSet(4);
        refuseSet(6);
        refuseSet(8);
    }

    private static void registerIsLookedAtFirst() {
        check.dueRefused("set(8, 4)", RegistersTest::withOne, Check.INDEX, x -> x.set(8, 4));
        check.dueRefused("set(-1, -2)", RegistersTest::withOne, Check.INDEX, x -> x.set(-1, -2));
    }

    /** "the new reference comes before the old one goes" */
    private static void sameValueAgain() {
        CountedObjects x = Memory.row(20, 3, 2);
        check.due("set(0, 2)", x.set(0, 2), 2);
        check.due("exists(2)", x.exists(2), true);
        check.due("count(2)", x.count(2), 1);
    }

    private static void sameValueMayBeFullForAMoment() {
        CountedObjects x = Memory.row(20, 3, 2);
        for (int r = 1; r < 5; r++) {
            x.set(r, 2);
        }
        x.set(0, 2);
        check.due("count(2), it was 6 for a moment", x.count(2), 5);
        x.set(5, 2);
        check.due("count(2)", x.count(2), 6);
        x.set(0, 2);
        check.due("count(2), it was full and stays", x.count(2), 7);
    }

    private static void valueThatOnlyTheOldOneHad() {
        CountedObjects x = Memory.row(20, 3, 3, 2);
        x.store(2, 0, 4);
        x.set(1, 0);
        check.due("set(0, 4)", x.set(0, 4), 2);
        check.due("exists(2)", x.exists(2), false);
        check.due("exists(4)", x.exists(4), true);
        check.due("count(4)", x.count(4), 1);
    }

    /** "(the object may have been let go)" */
    private static void answersWhatWasLetGo() {
        CountedObjects x = Memory.row(20, 3, 2);
        check.due("set(0, 7)", x.set(0, 7), 2);
        check.due("exists(2)", x.exists(2), false);
        check.due("register(0)", x.register(0), 7);
        check.dueThrow("it is no value now", x, Check.ARGUMENT, y -> y.set(0, 2));
        check.due("register(0)", x.register(0), 7);
    }

    private static void fullOneIsNotLetGo() {
        CountedObjects x = Memory.row(20, 3, 8);
        Memory.forget(x, 0);
        check.due("exists(2)", x.exists(2), true);
        check.due("set(0, 2), which nothing refers to", x.set(0, 2), 0);
        check.due("set(0, 0)", x.set(0, 0), 2);
        check.due("exists(2)", x.exists(2), true);
    }
}
