/** "An object is used for at most 512 calls after it has been made": runs of just so many, on memories of all sizes. */
public final class FullRunTest {
    private static final int RUNS = 2000;
    private static final int CALLS = 512;

    public static void main(String[] args) {
        Check check = new Check();
        for (int run = 0; run < RUNS; run++) {
            Dice dice = new Dice(9000L + run);
            int words = 16 + dice.below(run % 4 == 0 ? 385 : 60);
            int entries = 2 + dice.below(run % 3 == 0 ? 39 : 9);
            play(check, dice, words, entries);
        }
        play(check, new Dice(1L), 16, 2);
        play(check, new Dice(2L), 16, 40);
        play(check, new Dice(3L), 400, 2);
        play(check, new Dice(4L), 400, 40);
        check.end();
    }

    private static void play(Check check, Dice dice, int words, int entries) {
        Caller caller = new Caller(dice, words, entries);
        CountedObjects x = caller.newObject();
        for (int call = 1; call <= CALLS; call++) {
            Step step = dice.below(2) == 0 ? caller.ask() : caller.change();
            String what = words + " words, " + entries + " entries, call " + call + ": " + step.told();
            check.due(what, step.answer(x), step.due());
        }
    }
}
