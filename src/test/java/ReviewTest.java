/** Promises 7 review, 8 wouldFall, 9 takeBack, 20 hasReview, 21 matAfter, 22 matAnew, 23 pointsAfter. */
public final class ReviewTest {
    private static final int TOUCH = Raidhall.TOUCH;
    private static final int BONUS = Raidhall.BONUS;
    private static final int BAULK = Raidhall.BAULK;
    private static final int BACK = Raidhall.BACK;
    private static final int FALL = Raidhall.FALL;
    private static final int LINE = Raidhall.LINE;
    private static final int TIME = Raidhall.TIME;

    public static void main(String[] args) {
        argumentsAreLookedAt();
        endsStayEnds();
        stepsOfTheRaidMustStand();
        theSameAsTold();
        keptAndLost();
        laterEventsFollow();
        laterEventsFall();
        cardsFollowByTheColourTold();
        allStandsAsItWasIfRefused();
        goingOnIsNotLookedAt();
        timeBecomesAnotherEnd();
        takeBackRefuses();
        takeBackTakesAllAlike();
        takeBackKeepsEarlierReviews();
        behindEvents();
        Check.end();
    }

    /** Event 0: BAULK, TOUCH 2, BACK; event 1 a green card; event 2 FALL. */
    private static Raidhall threeEvents() {
        Raidhall x = Play.match();
        Play.raid(x, 0, 50, BACK, BAULK, Play.touch(2));
        x.card(1, 3, 0);
        Play.fall(x, 4);
        return x;
    }

    private static void argumentsAreLookedAt() {
        Raidhall x = threeEvents();
        Check.refusedAsIndex(() -> x.review(-1, 0, 0, BAULK, -1));
        Check.refusedAsIndex(() -> x.review(2, 0, 0, BAULK, -1));
        Check.refusedAsIndex(() -> x.review(0, -1, 0, BAULK, -1));
        Check.refusedAsIndex(() -> x.review(0, 1, 0, BAULK, -1));
        Check.refusedAsIndex(() -> x.review(0, 3, 0, BAULK, -1));
        Check.refusedAsIndex(() -> x.review(0, 0, -1, BAULK, -1));
        Check.refusedAsIndex(() -> x.review(0, 0, 3, BACK, -1));
        Check.refusedAsIndex(() -> x.review(0, 2, 1, 9, -1));
        Check.refusedAsArgument(() -> x.review(0, 0, 0, -1, -1));
        Check.refusedAsArgument(() -> x.review(0, 0, 2, TIME, -1));
        Check.refusedAsArgument(() -> x.review(0, 0, 0, TOUCH, -1));
        Check.refusedAsArgument(() -> x.review(0, 0, 0, TOUCH, 10));
        Check.refusedAsArgument(() -> x.review(0, 0, 0, BONUS, 0));
        Check.refusedAsArgument(() -> x.review(0, 0, 0, BONUS, -2));
        Check.refusedAsIndex(() -> x.wouldFall(-1, 0, BAULK, -1));
        Check.refusedAsIndex(() -> x.wouldFall(1, 0, BAULK, -1));
        Check.refusedAsIndex(() -> x.wouldFall(3, 0, BAULK, -1));
        Check.refusedAsIndex(() -> x.wouldFall(0, -1, BAULK, -1));
        Check.refusedAsIndex(() -> x.wouldFall(0, 3, 7, -1));
        Check.refusedAsArgument(() -> x.wouldFall(0, 0, -1, -1));
        Check.refusedAsArgument(() -> x.wouldFall(0, 2, TIME, -1));
        Check.refusedAsArgument(() -> x.wouldFall(0, 0, TOUCH, -1));
        Check.refusedAsArgument(() -> x.wouldFall(0, 0, TOUCH, 10));
        Check.refusedAsArgument(() -> x.wouldFall(0, 0, BAULK, 3));
        Check.refusedAsIndex(() -> x.hasReview(-1) ? 1 : 0);
        Check.refusedAsIndex(() -> x.hasReview(2) ? 1 : 0);
        Check.isSo(x.hasReview(0) && x.hasReview(1));
    }

    private static void endsStayEnds() {
        Raidhall x = threeEvents();
        Check.due(0, () -> x.wouldFall(0, 2, BAULK, -1));
        Check.due(0, () -> x.wouldFall(0, 2, TOUCH, 1));
        Check.due(0, () -> x.wouldFall(0, 0, BACK, -1));
        Check.due(2, () -> x.wouldFall(2, 0, BONUS, -1));
        Check.refusedAsState(() -> x.review(0, 0, 2, BONUS, -1));
        Check.refusedAsState(() -> x.review(0, 0, 1, LINE, -1));
        for (int kind = BACK; kind <= LINE; kind++) {
            int k = kind;
            Check.due(-1, () -> x.wouldFall(2, 0, k, -1));
        }
        Check.due(-1, () -> x.wouldFall(0, 2, LINE, -1));
    }

    private static void stepsOfTheRaidMustStand() {
        Raidhall x = Play.match();
        x.card(1, 6, 2);
        Play.raid(x, 0, 50, BACK, BAULK, BONUS, Play.touch(2), Play.touch(3));
        Check.due(1, () -> x.wouldFall(1, 0, BONUS, -1));
        Check.due(1, () -> x.wouldFall(1, 1, BAULK, -1));
        Check.due(1, () -> x.wouldFall(1, 0, TOUCH, 2));
        Check.due(1, () -> x.wouldFall(1, 3, TOUCH, 2));
        Check.due(1, () -> x.wouldFall(1, 2, TOUCH, 3));
        Check.due(1, () -> x.wouldFall(1, 2, TOUCH, 6));
        Check.due(1, () -> x.wouldFall(1, 2, TOUCH, 7));
        Check.due(1, () -> x.wouldFall(1, 3, BONUS, -1));
        Check.due(-1, () -> x.wouldFall(1, 3, TOUCH, 3));
        Check.due(-1, () -> x.wouldFall(1, 3, TOUCH, 5));
        Check.due(-1, () -> x.wouldFall(1, 0, TOUCH, 5));
        Check.refusedAsState(() -> x.review(0, 1, 3, TOUCH, 6));
        Check.due(1, () -> x.review(0, 1, 0, TOUCH, 5));
        Check.due(5, () -> x.out(1, 0));
        Check.due(2, () -> x.out(1, 1));
        Check.due(3, () -> x.out(1, 2));
    }

    private static void theSameAsTold() {
        Raidhall x = threeEvents();
        String before = Play.look(x);
        Check.due(-1, () -> x.wouldFall(0, 1, TOUCH, 2));
        Check.isSo(before.equals(Play.look(x)));
        Check.due(0, () -> x.review(1, 0, 1, TOUCH, 2));
        Check.isNot(x.hasReview(1));
        Check.isSo(x.hasReview(0));
        Check.isSo(before.replace("true", "?").equals(Play.look(x).replace("true", "?").replace("false", "?")));
        Check.due(0, () -> x.review(0, 2, 0, FALL, -1));
        Check.isNot(x.hasReview(0));
        Check.isNot(x.hasReview(1));
        Check.refusedAsState(() -> x.review(0, 2, 0, LINE, -1));
        Check.due(-1, () -> x.wouldFall(2, 0, LINE, -1));
    }

    private static void keptAndLost() {
        Raidhall x = Play.match();
        Play.raid(x, 0, 50, BACK, BAULK, Play.touch(2));
        Check.due(1, () -> x.review(0, 0, 0, BONUS, -1));
        Check.isSo(x.hasReview(0));
        Check.due(2, () -> x.points(0));
        Check.due(2, () -> x.raidPoints(0, 0));
        Check.due(2, () -> x.review(1, 0, 2, FALL, -1));
        Check.isSo(x.hasReview(1));
        Check.due(1, () -> x.points(1));
        Check.due(1, () -> x.points(0));
        Check.due(-1, () -> x.review(0, 0, 0, BAULK, -1));
        Check.isNot(x.hasReview(0));
        Check.due(0, () -> x.points(0));
        Check.due(2, () -> x.player(0, 0));
        Check.refusedAsState(() -> x.review(0, 0, 0, BONUS, -1));
        Check.due(-2, () -> x.review(1, 0, 2, BACK, -1));
        Check.isNot(x.hasReview(1));
        Check.due(1, () -> x.points(0));
        Check.due(0, () -> x.points(1));
        Check.refusedAsState(() -> x.review(1, 0, 2, FALL, -1));
        Check.due(50, () -> x.match(0));
    }

    private static void laterEventsFollow() {
        Raidhall x = Play.match();
        Play.empty(x, 0, 10);
        Play.fall(x, 0);
        Play.empty(x, 0, 10);
        Play.fall(x, 1);
        Check.due(1, () -> Play.empty(x, 1, 10));
        Check.due(2, () -> x.points(0));
        Check.due(1, () -> x.points(1));
        Check.due(2, () -> x.review(0, 2, 0, BONUS, -1));
        Check.isSo(x.hasReview(0));
        Check.due(0, () -> x.player(0, 1));
        Check.due(3, () -> x.points(0));
        Check.due(0, () -> x.points(1));
        Check.due(0, () -> x.match(4));
        Check.due(124, () -> x.matAfter(4, 1));
        Check.due(124, () -> x.matAnew(4, 1));
    }

    private static void laterEventsFall() {
        Raidhall x = Play.match();
        Play.raid(x, 0, 50, BACK, Play.touch(2));
        Play.empty(x, 0, 50);
        Play.empty(x, 0, 50);
        x.card(1, 3, 0);
        x.change(1, 4, 7);
        Play.empty(x, 5, 50);
        Check.due(1, () -> x.wouldFall(0, 0, TOUCH, 0));
        Check.due(2, () -> x.wouldFall(0, 1, FALL, -1));
        Check.due(3, () -> x.wouldFall(0, 0, TOUCH, 3));
        Check.due(4, () -> x.wouldFall(0, 0, TOUCH, 4));
        Check.due(5, () -> x.wouldFall(0, 0, TOUCH, 5));
        Check.due(-1, () -> x.wouldFall(0, 0, TOUCH, 6));
        Check.refusedAsState(() -> x.review(0, 0, 0, TOUCH, 5));
        Check.isSo(x.hasReview(0));
        // One who would not be OUT: a touch of the player that came back is one that cannot be.
        Raidhall touched = Play.match();
        Play.raid(touched, 0, 50, BACK, Play.touch(2));
        Play.raid(touched, 0, 50, BACK, Play.touch(6));
        Play.raid(touched, 1, 50, BACK, Play.touch(2));
        Check.due(2, () -> touched.wouldFall(1, 0, BAULK, -1));
        Check.due(-1, () -> touched.wouldFall(1, 0, TOUCH, 5));
        Check.due(1, () -> touched.wouldFall(0, 0, TOUCH, 0));
        Check.due(-1, () -> touched.wouldFall(0, 0, TOUCH, 3));
    }

    private static void cardsFollowByTheColourTold() {
        // Told green, the second card is yellow, and stays so; that to 6 was an all-out, and is none any more.
        Raidhall x = Play.match();
        x.card(1, 0, 0);
        x.card(1, 0, 0);
        Play.raid(x, 0, 9, BACK, Play.touch(1), Play.touch(2), Play.touch(3), Play.touch(4), Play.touch(5));
        x.card(1, 6, 1);
        Check.due(127 - 64 - 1, () -> x.matAfter(3, 1));
        Check.due(7, () -> x.points(0));
        Check.due(-2, () -> x.review(0, 2, 0, BONUS, -1));
        Check.due(5, () -> x.points(0));
        Check.due(3, () -> x.player(1, 0));
        Check.due(3, () -> x.player(1, 6));
        Check.due(0, () -> x.player(1, 1));
        Check.due(2, () -> x.next(1));
    }

    private static void allStandsAsItWasIfRefused() {
        Raidhall x = Play.match();
        Play.raid(x, 0, 50, BACK, Play.touch(2));
        Play.raid(x, 3, 50, BACK, Play.touch(6));
        Play.raid(x, 0, 50, LINE, BONUS);
        String before = Play.look(x);
        Check.due(1, () -> x.wouldFall(0, 0, TOUCH, 3));
        Check.due(2, () -> x.wouldFall(1, 0, TOUCH, 0));
        Check.due(-1, () -> x.wouldFall(2, 0, BAULK, -1));
        Check.refusedAsState(() -> x.review(1, 0, 0, TOUCH, 3));
        Check.refusedAsState(() -> x.review(1, 1, 0, TOUCH, 0));
        Check.isSo(before.equals(Play.look(x)));
    }

    private static void goingOnIsNotLookedAt() {
        Raidhall x = Play.match();
        Play.raid(x, 0, 50, BACK, Play.touch(2));
        x.raid(3);
        x.step(BONUS, -1, 5);
        Check.due(-1, () -> x.wouldFall(0, 0, TOUCH, 3));
        Check.refusedAsIndex(() -> x.wouldFall(1, 0, BONUS, -1));
        Check.refusedAsIndex(() -> x.review(0, 1, 0, BONUS, -1));
        Check.refusedAsState(() -> x.review(0, 0, 0, BONUS, -1));
        Check.refusedAsArgument(() -> x.review(0, 0, 0, BONUS, 1));
        Check.isSo(x.hasReview(0));
        Check.due(10, () -> x.step(BACK, -1, 50));
        Check.due(1, () -> x.wouldFall(0, 0, TOUCH, 3));
    }

    private static void timeBecomesAnotherEnd() {
        Raidhall x = Play.match();
        Play.raid(x, 0, 300, TIME, Play.touch(2));
        Check.due(2, () -> x.review(0, 0, 1, BACK, -1));
        Check.due(300, () -> x.match(0));
        Check.due(1, () -> x.points(0));
        Check.due(0, () -> x.points(1));
    }

    private static void takeBackRefuses() {
        Raidhall x = threeEvents();
        Check.refusedAsIndex(() -> x.takeBack(-1));
        Check.refusedAsIndex(() -> x.takeBack(3));
        Check.due(1, () -> x.takeBack(2));
        Check.refusedAsIndex(() -> x.takeBack(2));
    }

    private static void takeBackTakesAllAlike() {
        Raidhall x = Play.match();
        Play.fall(x, 0);
        String before = Play.look(x);
        x.card(0, 1, 0);
        x.card(0, 1, 0);
        x.change(0, 2, 7);
        Play.raid(x, 0, 50, BACK, BONUS, Play.touch(3));
        Check.due(0, () -> x.review(1, 4, 0, TOUCH, 4));
        Check.isNot(x.hasReview(1));
        x.raid(5);
        x.step(TOUCH, 1, 9);
        Check.due(5, () -> x.takeBack(1));
        Check.due(0, () -> x.match(3));
        Check.isNot(x.hasReview(1));
        Check.isSo(before.replace("true", "?").equals(Play.look(x).replace("true", "?").replace("false", "?")));
        Check.due(0, () -> x.card(0, 1, 0));
        Check.due(1, () -> x.change(0, 2, 7));
        Check.due(3, () -> x.raid(0));
        Check.due(4, () -> x.takeBack(0));
        Check.due(0, () -> x.match(2));
        Check.due(0, () -> x.raid(0));
        Check.due(1, () -> x.takeBack(0));
        Check.due(0, () -> x.points(1));
        Raidhall emptied = Play.match();
        Play.passEmpty(emptied, 4);
        Check.due(1, () -> emptied.match(4));
        emptied.takeBack(3);
        Check.due(1, () -> emptied.match(1));
        Check.due(0, () -> emptied.match(4));
        emptied.takeBack(0);
        Check.due(0, () -> emptied.match(4));
        Raidhall over = Play.match(300);
        Play.empty(over, 0, 300);
        Check.due(1, () -> over.match(5));
        Check.due(1, () -> over.takeBack(0));
        Check.due(0, () -> over.match(5));
        Check.due(0, () -> over.raid(0));
    }

    private static void takeBackKeepsEarlierReviews() {
        Raidhall x = Play.match();
        Play.raid(x, 0, 50, BACK, BAULK, Play.touch(2));
        Play.fall(x, 0);
        Check.due(1, () -> x.review(0, 0, 0, BONUS, -1));
        Check.due(1, () -> x.takeBack(1));
        Check.due(2, () -> x.points(0));
        Check.isSo(x.hasReview(0));
    }

    private static void behindEvents() {
        Raidhall x = Play.match();
        Play.raid(x, 0, 50, BACK, Play.touch(2), Play.touch(5));
        x.card(1, 0, 2);
        x.change(0, 6, 9);
        Play.fall(x, 1);
        x.raid(1);
        int[] mats = {127, 127 - 4 - 32, 127, 90, 575, 90, 575, 88};
        for (int i = 0; i < 4; i++) {
            for (int side = 0; side < 2; side++) {
                int event = i;
                int s = side;
                Check.due(mats[2 * event + s], () -> x.matAfter(event, s));
                Check.due(mats[2 * event + s], () -> x.matAnew(event, s));
            }
        }
        int[] points = {2, 3, 3, 4};
        for (int i = 0; i < 4; i++) {
            int event = i;
            Check.due(points[event], () -> x.pointsAfter(event, 0));
            Check.due(0, () -> x.pointsAfter(event, 1));
        }
        for (int bad : new int[] {-1, 4, 5, Integer.MAX_VALUE, Integer.MIN_VALUE}) {
            Check.refusedAsIndex(() -> x.matAfter(bad, 0));
            Check.refusedAsIndex(() -> x.matAnew(bad, 0));
            Check.refusedAsIndex(() -> x.pointsAfter(bad, 0));
        }
        for (int bad : new int[] {-1, 2}) {
            Check.refusedAsIndex(() -> x.matAfter(0, bad));
            Check.refusedAsIndex(() -> x.matAnew(0, bad));
            Check.refusedAsIndex(() -> x.pointsAfter(0, bad));
        }
    }
}
