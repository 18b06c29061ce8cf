import java.util.ArrayList;
import java.util.List;

/** A sentence of the document, and a run of calls on a new object with what the sentence makes due. */
final class Run {
    static final int NONE = Raidhall.NONE;
    static final int LONGEST = 24000;
    private static final long[] SEEDS = {11, 12};

    private final String sentence;
    private final Raidhall hall = new Raidhall();
    private final List<Call> made = new ArrayList<>();
    private int calls;

    Run(String sentence) {
        this.sentence = sentence;
    }

    /** With a match of the clubs 0 and 1 that lasts so long. */
    static Run match(String sentence, int tenths) {
        Run run = new Run(sentence);
        run.does("begin", 0, 1, tenths);
        return run;
    }

    static Run match(String sentence) {
        return match(sentence, LONGEST);
    }

    /** A call that must be answered, whatever the answer is. */
    int does(String name, int... args) {
        Call call = new Call(name, args);
        count();
        Check.count();
        try {
            int answer = call.on(hall);
            made.add(call);
            return answer;
        } catch (RuntimeException e) {
            wrong(call, e.toString(), "an answer");
            return NONE;
        }
    }

    void due(int want, String name, int... args) {
        int got = does(name, args);
        if (got != want) {
            wrong(new Call(name, args), Integer.toString(got), Integer.toString(want));
        }
    }

    void index(String name, int... args) {
        refused(Check.INDEX, name, args);
    }

    void argument(String name, int... args) {
        refused(Check.ARGUMENT, name, args);
    }

    void state(String name, int... args) {
        refused(Check.STATE, name, args);
    }

    /** The exception must be this one, and all must be as if the call had not been made. */
    private void refused(Class<? extends RuntimeException> want, String name, int... args) {
        Call call = new Call(name, args);
        count();
        Check.count();
        String got = call.outcome(hall);
        if (!got.equals(want.getName())) {
            wrong(call, got, want.getName());
        }
        List<Call> with = new ArrayList<>(made);
        with.add(call);
        if (!Seen.now(made).equals(Seen.now(with))) {
            wrong(call, "a change that can be seen", "none");
        }
        int room = Seen.MOST_CALLS - with.size();
        for (long seed : SEEDS) {
            if (!Seen.later(made, seed, room).equals(Seen.later(with, seed, room))) {
                wrong(call, "a change of what follows", "none");
            }
        }
    }

    private void count() {
        calls++;
        if (calls == Seen.MOST_CALLS + 1) {
            Check.tell("\"" + sentence + "\": the test makes more calls than the document allows");
        }
    }

    private void wrong(Call call, String got, String want) {
        Check.tell("\"" + sentence + "\": " + call + " gave " + got + ", due is " + want);
    }

    // ---- what many runs need

    /** A whole raid of the side whose turn it is; a touch is told as 10 and the player. Tells what the end gave. */
    int raid(int raider, int end, int endTenth, int... steps) {
        does("raid", raider);
        for (int i = 0; i < steps.length; i++) {
            boolean isTouch = steps[i] >= 10;
            does("step", isTouch ? Raidhall.TOUCH : steps[i], isTouch ? steps[i] - 10 : NONE, i + 1);
        }
        return does("step", end, NONE, endTenth);
    }

    void raidDue(int want, int raider, int end, int endTenth, int... steps) {
        int got = raid(raider, end, endTenth, steps);
        if (got != want) {
            wrong(new Call("step", end, NONE, endTenth), Integer.toString(got), Integer.toString(want));
        }
    }

    void empty(int raider, int endTenth) {
        raid(raider, Raidhall.BACK, endTenth, Raidhall.BAULK);
    }

    void fall(int raider) {
        raid(raider, Raidhall.FALL, 20);
    }

    /** Touches these players; all of them are out then. */
    void touch(int raider, int... players) {
        int[] steps = new int[players.length];
        for (int i = 0; i < players.length; i++) {
            steps[i] = 10 + players[i];
        }
        raid(raider, Raidhall.BACK, 20, steps);
    }

    /** Lets so many tenths pass by raids for the bonus, in which nobody goes or comes; both sides send this raider. */
    void pass(int raider, int tenths) {
        for (int left = tenths; left > 0; left -= 300) {
            raid(raider, Raidhall.BACK, Math.min(left, 300), Raidhall.BONUS);
        }
    }

    /** Raids for the bonus until there are so many events; takes two tenths each. */
    void fill(int raider, int events) {
        for (int i = does("match", 2); i < events; i++) {
            raid(raider, Raidhall.BACK, 2, Raidhall.BONUS);
        }
    }

    void type(String text) {
        for (int i = 0; i < text.length(); i++) {
            does("type", text.charAt(i));
        }
    }

    /** Sells a lot to a club for this price. */
    void sell(int lot, int club, int price) {
        does("call", lot);
        does("bid", club, price);
        due(club, "hammer");
    }

    void look(String name, int first, int... wants) {
        for (int i = 0; i < wants.length; i++) {
            due(wants[i], name, first, i);
        }
    }
}
