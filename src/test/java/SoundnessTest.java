import java.util.ArrayList;
import java.util.List;

/**
 * Long runs of mixed calls, always the same ones: only the document's exceptions leave the class, a call that throws
 * changes nothing, and what can be told in two ways is told alike.
 */
public final class SoundnessTest {
    private static final int RUNS = 400;
    private static final int CALLS = 512;

    private static long seed;
    /** Calls that were answered, to be made again on another object. */
    private static List<int[]> made;

    public static void main(String[] args) {
        long answered = 0;
        for (int run = 1; run <= RUNS; run++) {
            seed = run * 7919L;
            answered += oneRun(run);
        }
        System.out.println(answered + " calls were answered");
        Check.isSo(answered > RUNS * CALLS / 4);
        Check.end();
    }

    private static int below(int bound) {
        seed = seed * 6364136223846793005L + 1442695040888963407L;
        return (int) ((seed >>> 33) % bound);
    }

    /** Mostly a number in range, at times one beside it. */
    private static int about(int bound) {
        switch (below(40)) {
            case 0:
                return -1;
            case 1:
                return bound;
            case 2:
                return Integer.MAX_VALUE;
            case 3:
                return Integer.MIN_VALUE;
            default:
                return below(bound);
        }
    }

    private static int oneRun(int run) {
        Raidhall x = new Raidhall();
        made = new ArrayList<>();
        int answered = 0;
        for (int i = 0; i < CALLS; i++) {
            int[] call = draw(x);
            String before = Play.look(x);
            int predicted = call[0] == 5 ? foreseen(x, call) : 0;
            try {
                make(x, call);
                answered++;
                made.add(call);
                if (call[0] == 5 && predicted != Raidhall.NONE) {
                    Check.tell("run " + run + ": a review stood that would not");
                }
                if (call[0] == 6 && call[1] == 0) {
                    Check.isSo(x.points(0) == 0 && x.points(1) == 0);
                }
            } catch (RuntimeException e) {
                lookAtException(run, call, e);
                if (call[0] == 5 && predicted == Raidhall.NONE && mayReview(x, call[1])) {
                    Check.tell("run " + run + ": a review was refused that would stand");
                }
                if (!before.equals(Play.look(x))) {
                    Check.tell("run " + run + ": a call that threw changed something: " + call[0]);
                }
            }
            lookAtMats(run, x);
        }
        Raidhall again = new Raidhall();
        for (int[] call : made) {
            make(again, call);
        }
        if (!Play.look(x).equals(Play.look(again))) {
            Check.tell("run " + run + ": the same calls gave another state");
        }
        return answered;
    }

    private static int foreseen(Raidhall x, int[] call) {
        try {
            return x.wouldFall(call[2], call[3], call[4], call[5]);
        } catch (RuntimeException e) {
            return Integer.MIN_VALUE;
        }
    }

    private static boolean mayReview(Raidhall x, int side) {
        return (side == 0 || side == 1) && x.match(3) == 0 && x.hasReview(side);
    }

    private static void lookAtException(int run, int[] call, RuntimeException e) {
        Class<?> kind = e.getClass();
        if (kind != Check.INDEX && kind != Check.ARGUMENT && kind != Check.STATE) {
            Check.tell("run " + run + ": call " + call[0] + " threw " + e);
        }
    }

    private static void lookAtMats(int run, Raidhall x) {
        if (!Play.isThere(x)) {
            return;
        }
        int ended = x.match(2) - x.match(3);
        for (int side = 0; side < 2; side++) {
            int bits = 0;
            int onOrOut = 0;
            int outs = 0;
            for (int i = 0; i < 10; i++) {
                int state = x.player(side, i);
                bits |= state == Raidhall.ON ? 1 << i : 0;
                onOrOut += state == Raidhall.ON || state == Raidhall.OUT ? 1 : 0;
                outs += state == Raidhall.OUT ? 1 : 0;
            }
            boolean isRowWhole = outs == 0 ? x.next(side) == -1 : x.out(side, outs - 1) >= 0 && x.out(side, outs) == -1;
            if (bits == 0 || onOrOut < 4 || !isRowWhole) {
                Check.tell("run " + run + ": the mat of side " + side + " cannot be");
            }
            int last = ended - 1;
            if (last >= 0 && (x.matAfter(last, side) != bits || x.pointsAfter(last, side) != x.points(side))) {
                Check.tell("run " + run + ": behind the last event stands something else");
            }
            for (int i = 0; i < ended; i++) {
                if (x.matAfter(i, side) != x.matAnew(i, side)) {
                    Check.tell("run " + run + ": matAfter is not matAnew");
                }
            }
        }
    }

    private static int[] draw(Raidhall x) {
        int kind = below(100);
        boolean isRaiding = Play.isThere(x) && x.match(3) == 1;
        int raider = Play.isThere(x) && below(3) > 0 ? Play.firstOn(x, x.match(1)) : about(10);
        if (kind < 45) {
            return isRaiding ? drawStep() : new int[] {1, raider};
        } else if (kind < 51) {
            return new int[] {3, about(2), about(10), about(3)};
        } else if (kind < 55) {
            return new int[] {4, about(2), about(10), 9 - below(4)};
        } else if (kind < 62) {
            int step = about(7);
            return new int[] {5, about(2), about(8), below(3), step, step == 0 ? about(10) : -1};
        } else if (kind < 64) {
            return new int[] {6, Play.isThere(x) ? about(x.match(2) + 1) : 0};
        } else if (kind < 68) {
            return new int[] {below(2) * 7, about(8), about(8), below(9) == 0 ? 0 : 300 + below(1500)};
        } else if (kind < 72) {
            return new int[] {8 + below(3), 0};
        } else if (kind < 84) {
            return new int[] {11, below(20) == 0 ? below(140) : "raidtouch@;0123fline".charAt(below(20))};
        }
        return new int[] {12 + below(5), about(8), below(2) == 0 ? about(24) : 10 * below(30)};
    }

    private static int[] drawStep() {
        int kind = about(7);
        return new int[] {2, kind, kind == 0 ? about(10) : below(30) == 0 ? 0 : -1, kind == 6 ? 300 : about(301)};
    }

    private static int make(Raidhall x, int[] c) {
        switch (c[0]) {
            case 0:
                return x.begin(c[1], c[2], c[3]);
            case 1:
                return x.raid(c[1]);
            case 2:
                return x.step(c[1], c[2], c[3]);
            case 3:
                return x.card(c[1], c[2], c[3]);
            case 4:
                return x.change(c[1], c[2], c[3]);
            case 5:
                return x.review(c[1], c[2], c[3], c[4], c[5]);
            case 6:
                return x.takeBack(c[1]);
            case 7:
                return x.enter();
            case 8:
                return x.clear();
            case 9:
                return x.run();
            case 10:
                return x.fault();
            case 11:
                return x.type(c[1]);
            case 12:
                return x.right(c[1], c[2]);
            case 13:
                return x.call(c[2]);
            case 14:
                return x.bid(c[1], c[2]);
            case 15:
                return x.hammer();
            default:
                return x.answer(c[1] % 2 == 0);
        }
    }
}
