/** Promises 2 begin, 3 raid, 10 enter, 19 match: a match from its begin to its entering. */
public final class MatchTest {
    public static void main(String[] args) {
        beginRefuses();
        beginAnswers();
        beginForgets();
        raidRefuses();
        raidTakesTurns();
        raidNeedsTime();
        sixtyEvents();
        matchTells();
        enterRefuses();
        Check.end();
    }

    private static void beginRefuses() {
        Raidhall x = new Raidhall();
        Check.refusedAsIndex(() -> x.begin(-1, 0, 300));
        Check.refusedAsIndex(() -> x.begin(8, 0, 300));
        Check.refusedAsIndex(() -> x.begin(0, -1, 300));
        Check.refusedAsIndex(() -> x.begin(0, 8, 300));
        Check.refusedAsIndex(() -> x.begin(8, 8, 0));
        Check.refusedAsArgument(() -> x.begin(3, 3, 300));
        Check.refusedAsArgument(() -> x.begin(0, 1, 299));
        Check.refusedAsArgument(() -> x.begin(0, 1, 24001));
        Check.refusedAsArgument(() -> x.begin(0, 1, Integer.MIN_VALUE));
        Check.refusedAsState(() -> x.match(0));
        Check.due(1, () -> x.begin(7, 0, 24000));
        Check.refusedAsState(() -> x.begin(1, 2, 300));
        Check.refusedAsIndex(() -> x.begin(1, 9, 300));
        Check.refusedAsArgument(() -> x.begin(1, 1, 300));
        Check.due(7, () -> x.match(6));
    }

    private static void beginAnswers() {
        Raidhall x = new Raidhall();
        Check.due(1, () -> x.begin(0, 1, 300));
        Play.empty(x, 0, 300);
        Check.refusedAsState(() -> x.begin(0, 1, 300));
        x.enter();
        Check.due(2, () -> x.begin(0, 1, 300));
        x.raid(0);
        x.takeBack(0);
        Check.refusedAsState(() -> x.begin(0, 1, 300));
        Play.empty(x, 0, 300);
        x.enter();
        Check.due(3, () -> x.begin(4, 2, 300));
    }

    private static void beginForgets() {
        Raidhall x = Play.match(300);
        x.card(0, 6, 1);
        x.card(0, 5, 0);
        x.change(1, 6, 9);
        Play.raid(x, 0, 300, Raidhall.BACK, Raidhall.BONUS, Play.touch(2));
        x.review(0, 3, 0, Raidhall.BONUS, -1);
        Check.isNot(x.hasReview(0));
        x.enter();
        x.begin(0, 1, 600);
        Raidhall emptied = Play.match(900);
        Play.passEmpty(emptied, 3);
        emptied.enter();
        emptied.begin(0, 1, 900);
        Check.due(0, () -> emptied.match(4));
        Play.empty(emptied, 0, 2);
        Play.fall(emptied, 0);
        Check.due(0, () -> emptied.match(4));
        Raidhall fresh = Play.match(600);
        for (int side = 0; side < 2; side++) {
            int s = side;
            Check.isSo(x.hasReview(s));
            Check.due(0, () -> x.points(s));
            Check.due(-1, () -> x.next(s));
            for (int i = 0; i < 10; i++) {
                int p = i;
                Check.due(fresh.player(s, p), () -> x.player(s, p));
                Check.due(0, () -> x.raidPoints(s, p));
            }
        }
        Check.due(0, () -> x.match(0));
        Check.due(0, () -> x.match(1));
        Check.due(0, () -> x.match(2));
        Check.due(0, () -> x.card(0, 5, 0));
        Check.due(1, () -> x.card(0, 6, 1));
        for (int i = 0; i < 5; i++) {
            int n = i;
            Check.due(n + 1, () -> x.change(1, n, n == 0 ? 7 : n - 1));
        }
    }

    private static void raidRefuses() {
        Raidhall x = Play.match();
        Check.refusedAsIndex(() -> x.raid(-1));
        Check.refusedAsIndex(() -> x.raid(10));
        Check.refusedAsState(() -> x.raid(7));
        x.card(0, 1, 1);
        x.card(0, 2, 2);
        Check.refusedAsState(() -> x.raid(1));
        Check.refusedAsState(() -> x.raid(2));
        Check.due(2, () -> x.raid(0));
        Check.refusedAsState(() -> x.raid(3));
        Check.refusedAsIndex(() -> x.raid(10));
        x.step(Raidhall.FALL, -1, 10);
        Check.due(3, () -> x.raid(2));
    }

    private static void raidTakesTurns() {
        Raidhall x = Play.match();
        Play.fall(x, 3);
        Check.due(1, () -> x.match(1));
        Play.fall(x, 4);
        Check.due(0, () -> x.match(1));
        x.card(1, 0, 0);
        x.change(0, 0, 7);
        Check.due(0, () -> x.match(1));
        Check.due(4, () -> x.raid(4));
    }

    private static void raidNeedsTime() {
        Raidhall x = Play.match(301);
        Play.empty(x, 0, 300);
        Check.due(0, () -> x.match(5));
        Check.refusedAsState(x::enter);
        Check.due(1, () -> x.raid(0));
        x.step(Raidhall.BACK, -1, 1);
        Check.due(1, () -> x.match(5));
        Check.refusedAsState(() -> x.raid(0));
        Check.due(301, () -> x.match(0));
        Check.due(0, () -> x.card(0, 0, 0));
        Check.due(1, () -> x.change(0, 0, 8));
        Check.refusedAsState(() -> x.raid(1));
    }

    private static void sixtyEvents() {
        Raidhall x = Play.match();
        for (int i = 0; i < 59; i++) {
            int n = i;
            Check.due(n, () -> x.raid(Play.firstOn(x, x.match(1))));
            x.step(Raidhall.BAULK, -1, 1);
            x.step(Raidhall.BONUS, -1, 2);
            x.step(Raidhall.BACK, -1, 3);
        }
        Check.due(59, () -> x.raid(Play.firstOn(x, x.match(1))));
        x.step(Raidhall.BONUS, -1, 1);
        x.step(Raidhall.BACK, -1, 300);
        Check.due(60, () -> x.match(2));
        Check.refusedAsState(() -> x.raid(0));
        Check.refusedAsState(() -> x.card(0, 0, 0));
        Check.refusedAsState(() -> x.change(0, 0, 7));
        Check.due(0, () -> x.review(0, 59, 0, Raidhall.BONUS, -1));
        Check.due(1, () -> x.takeBack(59));
        x.card(0, 0, 0);
        Check.due(60, () -> x.match(2));
        Check.refusedAsState(() -> x.raid(0));
        x.takeBack(59);
        Check.due(1, () -> x.change(0, 0, 7));
        Check.refusedAsState(() -> x.change(0, 1, 8));
        Check.due(60, () -> x.match(2));
    }

    private static void matchTells() {
        Raidhall none = new Raidhall();
        Check.refusedAsArgument(() -> none.match(-1));
        Check.refusedAsArgument(() -> none.match(8));
        Check.refusedAsState(() -> none.match(7));
        Raidhall x = new Raidhall();
        x.begin(6, 2, 500);
        Check.refusedAsArgument(() -> x.match(-1));
        Check.refusedAsArgument(() -> x.match(8));
        look(x, 0, 0, 0, 0, 0, 0, 6, 2);
        x.raid(4);
        x.step(Raidhall.BAULK, -1, 120);
        look(x, 0, 0, 1, 1, 0, 0, 6, 2);
        x.step(Raidhall.BACK, -1, 200);
        look(x, 200, 1, 1, 0, 0, 0, 6, 2);
        x.card(1, 4, 0);
        look(x, 200, 1, 2, 0, 0, 0, 6, 2);
        x.raid(4);
        x.step(Raidhall.FALL, -1, 299);
        look(x, 499, 0, 3, 0, 0, 0, 6, 2);
        x.raid(4);
        look(x, 499, 0, 4, 1, 0, 0, 6, 2);
        x.step(Raidhall.FALL, -1, 1);
        look(x, 500, 1, 4, 0, 0, 1, 6, 2);
        x.enter();
        Check.refusedAsState(() -> x.match(2));
    }

    private static void look(Raidhall x, int... want) {
        for (int i = 0; i < want.length; i++) {
            int what = i;
            Check.due(want[what], () -> x.match(what));
        }
    }

    private static void enterRefuses() {
        Raidhall x = new Raidhall();
        Check.refusedAsState(x::enter);
        x.begin(0, 1, 300);
        Check.refusedAsState(x::enter);
        x.raid(0);
        x.step(Raidhall.TOUCH, 0, 300);
        Check.refusedAsState(x::enter);
        x.takeBack(0);
        Play.fall(x, 0);
        Play.fall(x, 0);
        Check.refusedAsState(x::enter);
        Check.due(0, () -> x.club(0, 0));
        Play.fall(x, 1);
        Check.due(1, x::enter);
        Check.refusedAsState(x::enter);
        Check.refusedAsIndex(() -> x.takeBack(0));
        Check.refusedAsIndex(() -> x.matAfter(0, 0));
        Check.refusedAsIndex(() -> x.wouldFall(0, 0, Raidhall.FALL, -1));
        Check.refusedAsIndex(() -> x.review(0, 0, 0, Raidhall.FALL, -1));
        Check.refusedAsState(() -> x.points(0));
        Check.refusedAsState(() -> x.raid(0));
    }
}
