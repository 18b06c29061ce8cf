/** Promises 10 enter and 25 club. */
public final class LeagueTest {
    public static void main(String[] args) {
        clubRefuses();
        pointsOfLosing();
        noneWins();
        fractions();
        noneLetIsGreatest();
        Check.end();
    }

    private static void clubRefuses() {
        Raidhall x = new Raidhall();
        Check.refusedAsIndex(() -> x.club(-1, 0));
        Check.refusedAsIndex(() -> x.club(8, 9));
        Check.refusedAsArgument(() -> x.club(0, -1));
        Check.refusedAsArgument(() -> x.club(7, 7));
    }

    /** An empty raid of 300 tenths ends the short match. */
    private static void pass(Raidhall x) {
        Play.empty(x, Play.firstOn(x, x.match(1)), 300);
    }

    private static void tells(Raidhall x, int club, int... want) {
        for (int i = 0; i < want.length; i++) {
            int what = i;
            Check.due(want[what], () -> x.club(club, what));
        }
    }

    private static void pointsOfLosing() {
        Raidhall x = new Raidhall();
        result(x, 3, 5, 6, 0);
        tells(x, 3, 1, 1, 0, 5, 6, 0, 0);
        tells(x, 5, 1, 0, 0, 1, 0, 6, 1);
        Raidhall seven = new Raidhall();
        seven.begin(3, 5, 300);
        Play.raid(seven, 0, 20, Raidhall.BACK, Raidhall.BONUS, Play.touch(0), Play.touch(1), Play.touch(2),
                Play.touch(3), Play.touch(4), Play.touch(5));
        pass(seven);
        Check.due(1, () -> seven.match(5));
        Check.due(3, seven::enter);
        tells(seven, 3, 1, 1, 0, 5, 7, 0, 0);
        tells(seven, 5, 1, 0, 0, 1, 0, 7, 1);
        Raidhall eight = new Raidhall();
        eight.begin(5, 3, 300);
        Play.fall(eight, 2);
        Play.raid(eight, 0, 20, Raidhall.BACK, Play.touch(0), Play.touch(1), Play.touch(3), Play.touch(4),
                Play.touch(5), Play.touch(6));
        Check.due(9, () -> eight.points(1));
        Play.raid(eight, 2, 200, Raidhall.BACK, Raidhall.BONUS);
        Check.due(3, eight::enter);
        tells(eight, 3, 1, 1, 0, 5, 9, 1, 0);
        tells(eight, 5, 1, 0, 0, 0, 1, 9, 7);
        Check.due(1, () -> eight.club(0, 6));
        Check.due(6, () -> eight.club(7, 6));
    }

    private static void noneWins() {
        Raidhall x = new Raidhall();
        x.begin(7, 2, 300);
        Play.raid(x, 0, 100, Raidhall.BACK, Play.touch(0));
        Play.raid(x, 1, 100, Raidhall.BACK, Play.touch(1));
        Check.due(0, () -> x.club(7, 0));
        Play.empty(x, 0, 100);
        Check.due(-1, x::enter);
        tells(x, 7, 1, 0, 1, 3, 1, 1, 1);
        tells(x, 2, 1, 0, 1, 3, 1, 1, 0);
        tells(x, 0, 0, 0, 0, 0, 0, 0, 2);
        x.begin(2, 7, 300);
        Play.empty(x, 0, 300);
        Check.due(-1, x::enter);
        tells(x, 7, 2, 0, 2, 6, 1, 1, 1);
    }

    /** Enters a match of two clubs with these points of the side 0 and of the side 1, 0 to 6 each. */
    private static void result(Raidhall x, int club, int other, int points, int otherPoints) {
        x.begin(club, other, 300);
        score(x, points, 10);
        score(x, otherPoints, 290);
        x.enter();
    }

    private static void score(Raidhall x, int points, int tenth) {
        int turn = x.match(1);
        x.raid(Play.firstOn(x, turn));
        int told = 0;
        if (points == 0) {
            x.step(Raidhall.BAULK, -1, 1);
        }
        for (int k = 0; told < points && k < 10; k++) {
            if (x.player(1 - turn, k) == Raidhall.ON) {
                x.step(Raidhall.TOUCH, k, ++told);
            }
        }
        x.step(Raidhall.BACK, -1, tenth);
    }

    private static void fractions() {
        // 2:1, 4:2 and 5:3 have the same league points: 2/1 = 4/2 > 5/3, the equal ones by lower numbers.
        Raidhall x = new Raidhall();
        result(x, 6, 0, 5, 3);
        result(x, 5, 1, 4, 2);
        result(x, 4, 2, 2, 1);
        int[] ranks = {3, 4, 5, 6, 0, 1, 2, 7};
        // The losers have 1 each: 3/5 > 2/4 = 1/2; then 3 and 7 have none.
        for (int club = 0; club < 8; club++) {
            int c = club;
            Check.due(ranks[c], () -> x.club(c, 6));
        }
        // What a club has in the league goes ahead of the fraction.
        Raidhall y = new Raidhall();
        result(y, 7, 6, 1, 0);
        result(y, 5, 4, 6, 1);
        result(y, 5, 3, 0, 0);
        Check.due(0, () -> y.club(5, 6));
        Check.due(1, () -> y.club(7, 6));
        Check.due(2, () -> y.club(3, 6));
    }

    private static void noneLetIsGreatest() {
        Raidhall x = new Raidhall();
        result(x, 1, 2, 6, 1);
        result(x, 7, 3, 1, 0);
        Check.due(0, () -> x.club(7, 6));
        Check.due(1, () -> x.club(1, 6));
        result(x, 6, 4, 5, 0);
        // 1 by none and 5 by none are as great: the lower number is ahead.
        Check.due(0, () -> x.club(6, 6));
        Check.due(1, () -> x.club(7, 6));
        Check.due(2, () -> x.club(1, 6));
        // 0 by 0 is 1: ahead of less than 1, behind more than 1, among clubs with as much in the league.
        Raidhall y = new Raidhall();
        result(y, 7, 5, 0, 0);
        result(y, 6, 4, 3, 3);
        Check.due(0, () -> y.club(4, 6));
        Check.due(1, () -> y.club(5, 6));
        Check.due(2, () -> y.club(6, 6));
        Check.due(3, () -> y.club(7, 6));
        // With 3 for an even match and 3 times 1 for three lost by few, 0 by 0 is ahead of 3 by 6.
        result(y, 0, 1, 1, 2);
        result(y, 0, 1, 1, 2);
        result(y, 0, 1, 1, 2);
        Check.due(3, () -> y.club(0, 3));
        Check.due(0, () -> y.club(1, 6));
        Check.due(4, () -> y.club(7, 6));
        Check.due(5, () -> y.club(0, 6));
        // 0 by some is 0, behind 0 by 0.
        Raidhall z = new Raidhall();
        for (int i = 0; i < 3; i++) {
            result(z, 0, 1, 0, 1);
        }
        result(z, 6, 7, 0, 0);
        Check.due(3, () -> z.club(0, 6));
        Check.due(1, () -> z.club(6, 6));
        Check.due(2, () -> z.club(7, 6));
    }
}
