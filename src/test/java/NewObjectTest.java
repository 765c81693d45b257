/** Promise 1. */
public final class NewObjectTest {
    private static final Check check = new Check();

    public static void main(String[] args) {
        wordsAreBounded();
        entriesAreBounded();
        allIsEmpty();
        check.end();
    }

    private static void wordsAreBounded() {
        int[] asked = {Integer.MIN_VALUE, -1, 0, 15, 16, 17, 399, 400, 401, Integer.MAX_VALUE};
        int[] due = {16, 16, 16, 16, 16, 17, 399, 400, 400, 400};
        for (int i = 0; i < asked.length; i++) {
            CountedObjects x = new CountedObjects(asked[i], 5);
            check.due("free() of " + asked[i] + " words", x.free(), due[i]);
            check.due("chunks(0) of " + asked[i] + " words", x.chunks(0), 1);
            check.due("chunks(" + due[i] + ")", x.chunks(due[i]), 1);
        }
    }

    private static void entriesAreBounded() {
        int[] asked = {Integer.MIN_VALUE, 0, 1, 2, 3, 39, 40, 41, Integer.MAX_VALUE};
        int[] due = {2, 2, 2, 2, 3, 39, 40, 40, 40};
        for (int i = 0; i < asked.length; i++) {
            CountedObjects x = new CountedObjects(400, asked[i]);
            for (int entry = 1; entry <= due[i]; entry++) {
                check.due("entry " + entry, x.instantiate(0, x.register(0), 0), 2 * entry);
            }
            check.dueThrow("one more than " + due[i], Check.STATE, () -> x.instantiate(0, x.register(0), 0));
            check.due("objects()", x.objects(), due[i]);
        }
    }

    private static void allIsEmpty() {
        CountedObjects x = new CountedObjects(30, 4);
        check.due("a new object", Picture.of(x), "0 0 0 0 0 0 0 0 ; chunks 1*0 1*30; free 30, objects 0");
    }
}
