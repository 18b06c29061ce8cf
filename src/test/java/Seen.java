import java.util.ArrayList;
import java.util.List;

/**
 * What can be seen of an object behind some calls. The calls are made again on new objects, as many as it takes, so
 * that the asking does not change the object that is tested and none has more than the 512 calls of the document.
 */
final class Seen {
    static final int MOST_CALLS = 512;

    private Seen() {
    }

    static Raidhall behind(List<Call> calls) {
        Raidhall x = new Raidhall();
        for (Call call : calls) {
            call.outcome(x);
        }
        return x;
    }

    /** The outcome of every call that only asks. */
    static String now(List<Call> calls) {
        List<Call> asked = questions();
        StringBuilder seen = new StringBuilder();
        int at = 0;
        while (at < asked.size()) {
            Raidhall x = behind(calls);
            int room = Math.max(1, MOST_CALLS - calls.size());
            for (int i = 0; i < room && at < asked.size(); i++, at++) {
                seen.append(asked.get(at)).append(' ').append(asked.get(at).outcome(x)).append('\n');
            }
        }
        return seen.toString();
    }

    /** The outcomes of calls drawn behind, as many as told at most: they show what no call tells by itself. */
    static String later(List<Call> calls, long seed, int most) {
        Raidhall x = new Raidhall();
        Draw draw = new Draw(seed);
        for (Call call : calls) {
            make(x, call, draw);
        }
        StringBuilder seen = new StringBuilder();
        for (int i = 0; i < most; i++) {
            Call call = draw.next();
            seen.append(call).append(' ').append(make(x, call, draw)).append('\n');
        }
        return seen.toString();
    }

    private static String make(Raidhall x, Call call, Draw draw) {
        try {
            int answer = call.on(x);
            draw.see(call, answer);
            return Integer.toString(answer);
        } catch (RuntimeException e) {
            return e.getClass().getName();
        }
    }

    /** Every call that only asks; the last one, clear(), tells how many signs the pad has. */
    static List<Call> questions() {
        List<Call> asked = new ArrayList<>();
        addAll(asked, "match", 8);
        for (String ofSide : new String[] {"points", "next", "hasReview"}) {
            addAll(asked, ofSide, 2);
        }
        for (String ofPlayer : new String[] {"player", "out", "raidPoints"}) {
            addAll(asked, ofPlayer, 2, 10);
        }
        for (String ofEvent : new String[] {"matAfter", "matAnew", "pointsAfter"}) {
            addAll(asked, ofEvent, 60, 2);
        }
        asked.add(new Call("fault"));
        addAll(asked, "club", 8, 7);
        addAll(asked, "squad", 8, 3);
        addAll(asked, "lot", 24, 4);
        asked.add(new Call("clear"));
        return asked;
    }

    private static void addAll(List<Call> asked, String name, int count) {
        for (int i = 0; i < count; i++) {
            asked.add(new Call(name, i));
        }
    }

    private static void addAll(List<Call> asked, String name, int count, int each) {
        for (int i = 0; i < count; i++) {
            for (int k = 0; k < each; k++) {
                asked.add(new Call(name, i, k));
            }
        }
    }
}
