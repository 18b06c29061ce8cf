import java.util.ArrayList;
import java.util.List;

/** Long runs of mixed calls, always the same ones, on the class and on the document told a second time. */
public final class ModelTest {
    private static final int RUNS = 300;
    /** How many calls lie between two looks at all that can be asked. */
    private static final int APART = 100;

    private final int run;
    private final Raidhall hall = new Raidhall();
    private final Model model = new Model();
    private final List<Call> made = new ArrayList<>();

    private ModelTest(int run) {
        this.run = run;
    }

    public static void main(String[] args) {
        for (int run = 1; run <= RUNS; run++) {
            ModelTest test = new ModelTest(run);
            test.play(new DeepDraw(run * 104729L, test.model));
        }
        Check.end();
    }

    private void play(DeepDraw draw) {
        while (made.size() < Seen.MOST_CALLS) {
            Call call = draw.next();
            made.add(call);
            compare(call, call.outcome(hall), model.outcome(call));
            if (made.size() % APART == 0) {
                lookAtAll();
            }
        }
    }

    private void compare(Call call, String got, String want) {
        Check.count();
        if (!got.equals(want)) {
            Check.tell("run " + run + ", call " + made.size() + ", " + call + " gave " + got + ", due is " + want);
        }
    }

    /** The questions come behind all that was done, on other objects: the last one empties the pad. */
    private void lookAtAll() {
        Model asked = new Model();
        for (Call call : made) {
            asked.outcome(call);
        }
        StringBuilder want = new StringBuilder();
        for (Call call : Seen.questions()) {
            want.append(call).append(' ').append(asked.outcome(call)).append('\n');
        }
        compare(new Call("all that only asks"), Seen.now(made), want.toString());
    }
}
