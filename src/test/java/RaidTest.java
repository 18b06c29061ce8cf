/** Promise 4 step, and what follows from a raid. */
public final class RaidTest {
    private static final int TOUCH = Raidhall.TOUCH;
    private static final int BONUS = Raidhall.BONUS;
    private static final int BAULK = Raidhall.BAULK;
    private static final int BACK = Raidhall.BACK;
    private static final int FALL = Raidhall.FALL;
    private static final int LINE = Raidhall.LINE;
    private static final int TIME = Raidhall.TIME;

    public static void main(String[] args) {
        argumentsAreLookedAt();
        statesAreLookedAt();
        touchesCount();
        bonusNeedsSix();
        idleRaiderIsOut();
        emptyAndDoOrDie();
        doOrDieIsNotEmpty();
        raiderIsHeld();
        fewStandingHold();
        whoComesBack();
        allOut();
        raidingSideAllOut();
        nothingChangesBeforeTheEnd();
        Check.end();
    }

    private static void argumentsAreLookedAt() {
        Raidhall none = new Raidhall();
        Check.refusedAsArgument(() -> none.step(7, -1, 1));
        Check.refusedAsState(() -> none.step(BACK, -1, 1));
        Raidhall x = Play.match();
        Check.refusedAsArgument(() -> x.step(-1, -1, 1));
        x.raid(0);
        Check.refusedAsArgument(() -> x.step(-1, -1, 1));
        Check.refusedAsArgument(() -> x.step(7, -1, 1));
        Check.refusedAsArgument(() -> x.step(TOUCH, -1, 1));
        Check.refusedAsArgument(() -> x.step(TOUCH, 10, 1));
        for (int kind = BONUS; kind <= TIME; kind++) {
            int k = kind;
            Check.refusedAsArgument(() -> x.step(k, 0, 300));
            Check.refusedAsArgument(() -> x.step(k, -2, 300));
            Check.refusedAsArgument(() -> x.step(k, -1, 0));
            Check.refusedAsArgument(() -> x.step(k, -1, 301));
        }
        Check.refusedAsArgument(() -> x.step(TOUCH, 0, 0));
        Check.refusedAsArgument(() -> x.step(TOUCH, 0, 301));
        Check.due(-1, () -> x.step(TOUCH, 0, 1));
        Check.due(10, () -> x.step(BACK, -1, 300));
    }

    private static void statesAreLookedAt() {
        Raidhall x = Play.match();
        x.card(1, 3, 1);
        x.card(1, 4, 2);
        Check.refusedAsState(() -> x.step(BACK, -1, 1));
        x.raid(0);
        Check.refusedAsState(() -> x.step(TOUCH, 3, 10));
        Check.refusedAsState(() -> x.step(TOUCH, 4, 10));
        Check.refusedAsState(() -> x.step(TOUCH, 7, 10));
        Check.due(-1, () -> x.step(TOUCH, 5, 10));
        Check.refusedAsState(() -> x.step(TOUCH, 6, 10));
        Check.refusedAsState(() -> x.step(TOUCH, 6, 9));
        Check.refusedAsState(() -> x.step(TOUCH, 5, 11));
        Check.due(-1, () -> x.step(BONUS, -1, 11));
        Check.refusedAsState(() -> x.step(BONUS, -1, 12));
        Check.due(-1, () -> x.step(BAULK, -1, 12));
        Check.refusedAsState(() -> x.step(BAULK, -1, 13));
        Check.refusedAsState(() -> x.step(TIME, -1, 13));
        Check.refusedAsState(() -> x.step(TIME, -1, 299));
        Check.refusedAsState(() -> x.step(BACK, -1, 12));
        Check.due(20, () -> x.step(BACK, -1, 13));
        Check.refusedAsState(() -> x.step(BACK, -1, 14));
        x.raid(0);
        Check.due(-1, () -> x.step(TOUCH, 1, 300));
        Check.refusedAsState(() -> x.step(TIME, -1, 300));
        Check.due(1, () -> x.match(3));
        x.takeBack(3);
        x.raid(0);
        Check.due(-1, () -> x.step(TOUCH, 1, 299));
        Check.due(1, () -> x.step(TIME, -1, 300));
        x.raid(0);
        Check.refusedAsState(() -> x.step(TOUCH, 0, 1));
    }

    private static void touchesCount() {
        Raidhall x = Play.match();
        Check.due(40, () -> Play.raid(x, 6, 50, BACK, Play.touch(4), BONUS, Play.touch(1), BAULK, Play.touch(3)));
        Check.due(4, () -> x.points(0));
        Check.due(0, () -> x.points(1));
        Check.due(4, () -> x.out(1, 0));
        Check.due(1, () -> x.out(1, 1));
        Check.due(3, () -> x.out(1, 2));
        Check.due(-1, () -> x.out(1, 3));
        Check.due(0, () -> x.player(0, 6));
        Check.due(4, () -> x.raidPoints(0, 6));
        Check.due(50, () -> x.match(0));
    }

    private static void bonusNeedsSix() {
        Raidhall six = Play.match();
        six.card(1, 0, 2);
        Check.due(10, () -> Play.raid(six, 0, 9, BACK, BONUS));
        Raidhall five = Play.match();
        five.card(1, 0, 2);
        five.card(1, 1, 2);
        Check.due(0, () -> Play.raid(five, 0, 9, BACK, BONUS));
        Raidhall suspended = Play.match();
        suspended.card(1, 0, 1);
        suspended.card(1, 1, 1);
        suspended.card(1, 2, 1);
        Check.due(10, () -> Play.raid(suspended, 0, 9, BACK, BONUS));
        Raidhall out = Play.match();
        Play.raid(out, 0, 9, BACK, Play.touch(0), Play.touch(1));
        Play.empty(out, 2, 9);
        Check.due(10, () -> Play.raid(out, 0, 9, BACK, BONUS, Play.touch(2)));
        Raidhall ownTouch = Play.match();
        ownTouch.card(1, 0, 2);
        Check.due(30, () -> Play.raid(ownTouch, 0, 9, BACK, Play.touch(1), Play.touch(2), BONUS));
    }

    private static void idleRaiderIsOut() {
        Raidhall x = Play.match();
        Check.due(1, () -> Play.raid(x, 5, 7, BACK));
        Check.due(2, () -> x.player(0, 5));
        Check.due(1, () -> x.points(1));
        Check.due(0, () -> x.raidPoints(0, 5));
        Check.due(1, () -> Play.raid(x, 2, 7, BACK));
        Check.due(2, () -> x.player(1, 2));
        Check.due(0, () -> x.player(0, 5));
    }

    private static void emptyAndDoOrDie() {
        Raidhall x = Play.match();
        Check.due(0, () -> Play.empty(x, 0, 7));
        Check.due(0, () -> Play.empty(x, 0, 7));
        Check.due(0, () -> x.match(4));
        Check.due(0, () -> Play.empty(x, 1, 7));
        Check.due(0, () -> x.match(4));
        Check.due(1, () -> Play.fall(x, 0));
        Check.due(1, () -> x.match(4));
        x.raid(2);
        Check.due(1, () -> x.match(4));
        x.step(BAULK, -1, 3);
        Check.due(1, () -> x.step(BACK, -1, 4));
        Check.due(2, () -> x.player(0, 2));
        Check.due(0, () -> x.player(1, 0));
        Check.due(0, () -> x.match(4));
        Play.empty(x, 1, 7);
        Check.due(0, () -> x.match(4));
    }

    private static void doOrDieIsNotEmpty() {
        Raidhall x = Play.match();
        for (int i = 0; i < 4; i++) {
            Play.empty(x, 0, 7);
        }
        Check.due(20, () -> Play.raid(x, 0, 7, BACK, Play.touch(4), BONUS));
        Check.due(10, () -> Play.raid(x, 0, 7, BACK, BONUS));
        Check.due(0, () -> x.match(4));
        Play.empty(x, 0, 7);
        Check.due(0, () -> x.match(4));
        Play.empty(x, 0, 7);
        Play.empty(x, 0, 7);
        Play.empty(x, 0, 7);
        Check.due(1, () -> x.match(4));
        Check.due(1, () -> Play.empty(x, 0, 7));
        Check.due(1, () -> x.match(4));
        Check.due(1, () -> Play.raid(x, 0, 7, BACK));
        Check.due(0, () -> x.match(4));
        Raidhall few = Play.match();
        few.card(1, 0, 2);
        few.card(1, 1, 2);
        Check.due(0, () -> Play.raid(few, 0, 7, BACK, BONUS));
        Play.fall(few, 2);
        Check.due(0, () -> Play.raid(few, 0, 7, BACK, BONUS, BAULK));
        Play.fall(few, 3);
        Check.due(1, () -> few.match(4));
        Check.due(1, () -> Play.raid(few, 0, 7, BACK, BONUS));
        Check.due(0, () -> few.raidPoints(0, 0));
        Raidhall held = Play.match();
        Play.empty(held, 0, 7);
        Play.empty(held, 0, 7);
        Play.fall(held, 0);
        Play.empty(held, 0, 7);
        Check.due(0, () -> held.match(4));
        Play.empty(held, 1, 7);
        Check.due(1, () -> held.match(4));
    }

    private static void raiderIsHeld() {
        for (int end = FALL; end <= TIME; end++) {
            int e = end;
            Raidhall x = Play.match();
            Check.due(1, () -> Play.raid(x, 3, 300, e, Play.touch(2), Play.touch(4)));
            Check.due(2, () -> x.player(0, 3));
            Check.due(0, () -> x.player(1, 2));
            Check.due(0, () -> x.raidPoints(0, 3));
            Check.due(0, () -> x.points(0));
            Check.due(11, () -> Play.raid(x, 6, 300, e, Play.touch(1), BONUS));
            Check.due(2, () -> x.points(1));
            Check.due(1, () -> x.points(0));
            Check.due(1, () -> x.raidPoints(1, 6));
            Check.due(0, () -> x.player(0, 3));
            Check.due(600, () -> x.match(0));
        }
    }

    /** Side 1 has three players fewer for good, and as many OUT as told. */
    private static Raidhall standing(int outs) {
        Raidhall x = Play.match();
        for (int i = 4; i < 7; i++) {
            x.card(1, i, 2);
        }
        x.raid(6);
        for (int i = 0; i < outs; i++) {
            x.step(TOUCH, i, i + 1);
        }
        x.step(BAULK, -1, 20);
        x.step(BACK, -1, 21);
        Play.empty(x, 3, 7);
        return x;
    }

    private static void fewStandingHold() {
        Raidhall four = standing(0);
        Check.due(1, () -> Play.fall(four, 0));
        Raidhall three = standing(1);
        Check.due(2, () -> Play.fall(three, 0));
        Check.due(0, () -> three.player(1, 0));
        Raidhall line = standing(1);
        Check.due(1, () -> Play.raid(line, 0, 100, LINE));
        Raidhall time = standing(1);
        Check.due(1, () -> Play.raid(time, 0, 300, TIME));
        Raidhall back = standing(1);
        Check.due(1, () -> Play.raid(back, 0, 300, BACK));
        Raidhall suspended = Play.match();
        for (int i = 4; i < 7; i++) {
            suspended.card(1, i, 1);
        }
        Play.raid(suspended, 0, 9, BACK, Play.touch(0), Play.touch(1), Play.touch(2));
        Play.empty(suspended, 3, 9);
        Check.due(1, () -> Play.fall(suspended, 0));
        Raidhall raiding = Play.match();
        Play.raid(raiding, 0, 9, BACK, Play.touch(0), Play.touch(1), Play.touch(2), Play.touch(3));
        Check.due(1, () -> Play.fall(raiding, 4));
    }

    private static void whoComesBack() {
        Raidhall x = Play.match();
        Play.raid(x, 0, 9, BACK, Play.touch(6), Play.touch(0), Play.touch(3));
        Check.due(10, () -> Play.raid(x, 1, 9, BACK, BONUS));
        Check.due(6, () -> x.next(1));
        Check.due(10, () -> Play.raid(x, 0, 9, BACK, Play.touch(5)));
        Check.due(20, () -> Play.raid(x, 1, 9, BACK, Play.touch(2), Play.touch(1)));
        Check.due(0, () -> x.player(1, 6));
        Check.due(0, () -> x.player(1, 0));
        Check.due(3, () -> x.next(1));
        Check.due(5, () -> x.out(1, 1));
        Check.due(1, () -> Play.fall(x, 0));
        Check.due(5, () -> x.next(1));
        Check.due(2, () -> x.next(0));
        Check.due(1, () -> x.out(0, 1));
        Check.due(0, () -> x.out(0, 2));
        Check.due(30, () -> Play.raid(x, 1, 9, BACK, Play.touch(3), Play.touch(4), Play.touch(5), BONUS));
        Check.due(-1, () -> x.next(1));
    }

    private static void allOut() {
        Raidhall x = Play.match();
        Check.due(100, () -> Play.raid(x, 0, 12, BACK, BONUS, Play.touch(6), Play.touch(5), Play.touch(4),
                Play.touch(3), Play.touch(2), Play.touch(1), Play.touch(0)));
        Check.due(10, () -> x.points(0));
        Check.due(8, () -> x.raidPoints(0, 0));
        Check.due(-1, () -> x.next(1));
        Check.due(127, () -> x.matAfter(0, 1));
        Raidhall left = Play.match();
        left.card(1, 6, 1);
        left.raid(0);
        for (int i = 0; i < 6; i++) {
            left.step(TOUCH, i, i + 1);
        }
        Check.due(80, () -> left.step(BACK, -1, 9));
        Check.due(3, () -> left.player(1, 6));
        Check.due(63, () -> left.matAfter(1, 1));
    }

    private static void raidingSideAllOut() {
        Raidhall x = Play.match();
        for (int i = 0; i < 3; i++) {
            x.card(0, i, 1);
        }
        Play.empty(x, 3, 300);
        Play.raid(x, 0, 300, BACK, Play.touch(4), Play.touch(5), Play.touch(6));
        Check.due(8, () -> x.matAfter(4, 0));
        Check.due(3, () -> Play.fall(x, 3));
        Check.due(120, () -> x.matAfter(5, 0));
        Check.due(-1, () -> x.next(0));
        Check.due(6, () -> x.points(1));
        // The suspended are looked at behind the all-out: they do not avert it, though their time is over.
        Raidhall late = Play.match();
        for (int i = 0; i < 3; i++) {
            late.card(0, i, 1);
        }
        Play.empty(late, 3, 300);
        Play.empty(late, 0, 300);
        Play.empty(late, 3, 300);
        Play.raid(late, 0, 200, BACK, Play.touch(4), Play.touch(5), Play.touch(6));
        Check.due(3, () -> Play.raid(late, 3, 100, LINE));
        Check.due(127, () -> late.matAfter(7, 0));
        Raidhall idle = Play.match();
        Play.empty(idle, 3, 10);
        Play.raid(idle, 0, 10, BACK, Play.touch(1), Play.touch(2), Play.touch(3), Play.touch(4), Play.touch(5),
                Play.touch(6));
        Check.due(3, () -> Play.raid(idle, 0, 10, BACK));
        Check.due(9, () -> idle.points(1));
    }

    private static void nothingChangesBeforeTheEnd() {
        Raidhall x = Play.match();
        x.raid(0);
        x.step(TOUCH, 2, 5);
        x.step(BONUS, -1, 6);
        Check.due(0, () -> x.player(1, 2));
        Check.due(-1, () -> x.out(1, 0));
        Check.due(0, () -> x.points(0));
        Check.due(0, () -> x.raidPoints(0, 0));
        Check.due(0, () -> x.match(0));
        Check.refusedAsState(() -> x.card(0, 0, 0));
        Check.refusedAsState(() -> x.change(0, 1, 7));
        x.step(LINE, -1, 77);
        Check.due(77, () -> x.match(0));
    }
}
