/** Promise 9. */
public final class BecomeTest {
    private static final Check check = new Check();

    public static void main(String[] args) {
        wordsAreExchanged();
        oneBecomesItself();
        refusesWhatIsNoObject();
        lettingGoFollowsTheWords();
        check.end();
    }

    private static CountedObjects withTwo() {
        CountedObjects x = new CountedObjects(40, 4);
        x.instantiate(0, 5, 2);
        x.instantiate(1, 2, 3);
        x.store(2, 0, 4);
        x.store(2, 1, 2);
        x.store(4, 2, 9);
        x.set(2, 4);
        return x;
    }

    private static void wordsAreExchanged() {
        CountedObjects x = withTwo();
        String before = Picture.of(x);
        x.become(2, 4);
        check.due("state", Picture.of(x), "2 4 4 0 0 0 0 0 "
                + "; 2 at 4 count 3 class 2 (0 0 9); 4 at 0 count 3 class 5 (4 2)"
                + "; chunks 1*0 1*31; free 31, objects 2");
        x.become(4, 2);
        check.due("and back", Picture.of(x), before);
    }

    private static void oneBecomesItself() {
        CountedObjects x = withTwo();
        String before = Picture.of(x);
        x.become(4, 4);
        check.due("state", Picture.of(x), before);
    }

    private static void refusesWhatIsNoObject() {
        CountedObjects x = withTwo();
        int[] noObjects = {0, 1, -1, -2, 6, 8, 10, 82, Integer.MIN_VALUE, Integer.MAX_VALUE};
        for (int o : noObjects) {
            check.dueThrowAndNoChange("become(2, " + o + ")", x, Check.ARGUMENT, () -> x.become(2, o));
            check.dueThrowAndNoChange("become(" + o + ", 2)", x, Check.ARGUMENT, () -> x.become(o, 2));
            check.dueThrowAndNoChange("become twice " + o, x, Check.ARGUMENT, () -> x.become(o, o));
        }
    }

    private static void lettingGoFollowsTheWords() {
        CountedObjects x = new CountedObjects(40, 4);
        x.instantiate(0, 0, 4);
        x.instantiate(1, 0, 1);
        x.instantiate(2, 0, 0);
        x.store(2, 3, 6);
        x.set(2, 0);
        x.become(2, 4);
        x.set(0, 0);
        check.due("the small one is let go", x.chunks(3), 1);
        check.due("count(6)", x.count(6), 1);
        x.set(1, 0);
        check.due("objects()", x.objects(), 0);
        check.due("chunks(6)", x.chunks(6), 1);
    }
}
