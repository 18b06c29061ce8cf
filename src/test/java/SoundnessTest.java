import java.util.ArrayList;
import java.util.List;

/**
 * Long runs of mixed calls, always the same ones: only the exceptions that the document names leave the class, a call
 * that throws changes nothing, and what can be told in two ways is told alike.
 */
public final class SoundnessTest {
    private static final int RUNS = 60;
    private static final int CALLS = 400;

    private final int run;
    private final Raidhall hall = new Raidhall();
    /** The calls that were answered. */
    private final List<Call> made = new ArrayList<>();
    /** All of them. */
    private final List<Call> tried = new ArrayList<>();

    private SoundnessTest(int run) {
        this.run = run;
    }

    public static void main(String[] args) {
        long answered = 0;
        for (int run = 1; run <= RUNS; run++) {
            SoundnessTest test = new SoundnessTest(run);
            test.play(new Draw(run * 7919L));
            answered += test.made.size();
        }
        System.out.println(answered + " calls were answered");
        Check.isSo(answered > RUNS * CALLS / 4);
        Check.end();
    }

    private void play(Draw draw) {
        for (int i = 0; i < CALLS; i++) {
            Call call = draw.next();
            boolean wouldStand = call.name().equals("review") && wouldStand(call);
            tried.add(call);
            try {
                int answer = call.on(hall);
                draw.see(call, answer);
                if (call.name().equals("review") && !wouldStand) {
                    tell(call, "was answered, but an event would fall");
                }
                made.add(call);
            } catch (RuntimeException e) {
                lookAtException(call, e, wouldStand);
            }
            if (i % 20 == 0) {
                lookAtTheMatch();
            }
        }
        Check.isSo(Seen.now(made).equals(Seen.now(tried)));
        Check.isSo(Seen.later(made, run, 100).equals(Seen.later(tried, run, 100)));
    }

    private void tell(Call call, String what) {
        Check.tell("run " + run + ", call " + tried.size() + ", " + call + " " + what);
    }

    private boolean wouldStand(Call review) {
        int[] a = review.args();
        String none = Integer.toString(Raidhall.NONE);
        return new Call("wouldFall", a[1], a[2], a[3], a[4]).outcome(Seen.behind(made)).equals(none);
    }

    private void lookAtException(Call call, RuntimeException e, boolean wouldStand) {
        Class<?> kind = e.getClass();
        Check.count();
        if (kind != Check.INDEX && kind != Check.ARGUMENT && kind != Check.STATE) {
            tell(call, "threw " + e);
        }
        if (wouldStand && mayReview(call.args()[0])) {
            tell(call, "was refused, but all events would stand");
        }
        if (tried.size() % 7 == 0) {
            List<Call> with = new ArrayList<>(made);
            with.add(call);
            if (!Seen.now(made).equals(Seen.now(with))) {
                tell(call, "threw and changed something");
            }
        }
    }

    private boolean mayReview(int side) {
        Raidhall x = Seen.behind(made);
        return (side == 0 || side == 1) && x.match(3) == 0 && x.hasReview(side);
    }

    private void lookAtTheMatch() {
        Raidhall x = Seen.behind(made);
        if (!new Call("match", 0).outcome(x).equals(Check.STATE.getName())) {
            for (int side = 0; side < 2; side++) {
                lookAtMat(x, side);
                lookAtRow(x, side);
                lookAtEvents(side);
            }
        }
    }

    private void lookAtMat(Raidhall x, int side) {
        int on = 0;
        int[] counts = new int[5];
        for (int i = 0; i < 10; i++) {
            counts[x.player(side, i)]++;
            on |= x.player(side, i) == Raidhall.ON ? 1 << i : 0;
        }
        int away = counts[Raidhall.SUSPENDED] + counts[Raidhall.GONE];
        if (on == 0 || away > 3 || counts[Raidhall.BENCH] != 3) {
            Check.tell("run " + run + ": the mat of the side " + side + " cannot be");
        }
        int last = x.match(2) - x.match(3) - 1;
        if (last >= 0 && (x.matAfter(last, side) != on || x.pointsAfter(last, side) != x.points(side))) {
            Check.tell("run " + run + ": behind the last event stands something else");
        }
    }

    private void lookAtRow(Raidhall x, int side) {
        int outs = 0;
        for (int i = 0; i < 10; i++) {
            outs += x.player(side, i) == Raidhall.OUT ? 1 : 0;
        }
        for (int place = 0; place < 10; place++) {
            int player = x.out(side, place);
            boolean isThere = player != Raidhall.NONE && x.player(side, player) == Raidhall.OUT;
            if (isThere != place < outs) {
                Check.tell("run " + run + ": the row of the side " + side + " is not those who are OUT");
            }
        }
        if (x.next(side) != x.out(side, 0)) {
            Check.tell("run " + run + ": the next one of the side " + side + " is not the first of its row");
        }
    }

    private void lookAtEvents(int side) {
        Raidhall x = Seen.behind(made);
        int ended = x.match(2) - x.match(3);
        for (int event = 0; event < ended; event++) {
            if (x.matAfter(event, side) != x.matAnew(event, side)) {
                Check.tell("run " + run + ": matAfter is not matAnew, event " + event);
            }
        }
    }
}
