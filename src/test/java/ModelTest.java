import java.util.ArrayList;
import java.util.List;

/** All promises: runs of calls, the whole state behind each call being held against the model. */
public final class ModelTest {
    private static final int RUNS = 400;
    // So few that with the picture behind the last one an object has no more than 512 calls.
    private static final int CALLS = 200;

    public static void main(String[] args) {
        Check check = new Check();
        for (int run = 0; run < RUNS; run++) {
            play(check, new Dice(1000L + run));
        }
        check.end();
    }

    private static void play(Check check, Dice dice) {
        int words = 16 + dice.below(60);
        int entries = 2 + dice.below(9);
        Caller caller = new Caller(dice, words, entries);
        List<Step> steps = new ArrayList<>();
        for (int call = 1; call <= CALLS; call++) {
            Step step = caller.change();
            CountedObjects x = made(caller, steps);
            String what = words + " words, " + entries + " entries, call " + call + ": " + step.told();
            check.due(what, step.answer(x), step.due());
            check.dueState(what, x, caller.model.picture());
            check.due(what + ", the model's fault", caller.model.fault(), "");
            steps.add(step);
        }
    }

    private static CountedObjects made(Caller caller, List<Step> steps) {
        CountedObjects x = caller.newObject();
        for (Step step : steps) {
            step.answer(x);
        }
        return x;
    }
}
