/** The boundaries of promise 25, and of the terms of the league: a test for each sentence. */
public final class LeagueBoundsTest {
    private static final int MATCHES = 0;
    private static final int WON = 1;
    private static final int EVEN = 2;
    private static final int HAS = 3;
    private static final int MADE = 4;
    private static final int LET = 5;
    private static final int RANK = 6;
    private static final int NONE = Raidhall.NONE;

    public static void main(String[] args) {
        clubs();
        whats();
        theFirstIsThrown();
        onlyWhatWasEntered();
        wonAndLost();
        even();
        together();
        ranks();
        Check.end();
    }

    /** Enters a match of two clubs in which they make these points, 0 to 6, or 9 for an all-out. */
    private static void result(Run r, int club, int other, int points, int otherPoints) {
        r.does("begin", club, other, 300);
        score(r, points, 10);
        score(r, otherPoints, 290);
        int winner = points == otherPoints ? NONE : points > otherPoints ? club : other;
        r.due(winner, "enter");
    }

    private static void score(Run r, int points, int tenth) {
        r.does("raid", 6);
        int touches = points == 9 ? 7 : points;
        for (int i = 0; i < touches; i++) {
            r.does("step", Raidhall.TOUCH, i, i + 1);
        }
        r.does("step", Raidhall.BAULK, NONE, 8);
        r.due(10 * points, "step", Raidhall.BACK, NONE, tenth);
    }

    private static void clubs() {
        Run r = new Run("25: `club`: 0 to 7");
        for (int bad : new int[] {-1, 8, Integer.MIN_VALUE, Integer.MAX_VALUE}) {
            r.index("club", bad, 0);
        }
        r.due(0, "club", 0, RANK);
        r.due(7, "club", 7, RANK);
    }

    private static void whats() {
        Run r = new Run("25: `what`: 0 to 6");
        for (int bad : new int[] {-1, 7, Integer.MIN_VALUE, Integer.MAX_VALUE}) {
            r.argument("club", 3, bad);
        }
        r.due(0, "club", 3, MATCHES);
        r.due(3, "club", 3, RANK);
    }

    private static void theFirstIsThrown() {
        Run r = new Run("25: if several apply, the one that is named first is thrown");
        r.index("club", 8, 7);
        r.index("club", -1, -1);
        r.argument("club", 7, 7);
    }

    private static void onlyWhatWasEntered() {
        Run r = new Run("The league: A match that is over is entered");
        r.does("begin", 3, 5, 300);
        r.raid(0, Raidhall.BACK, 300, 12);
        r.due(1, "match", 5);
        r.look("club", 3, 0, 0, 0, 0, 0, 0);
        r.look("club", 5, 0, 0, 0, 0, 0, 0);
        r.due(3, "enter");
        r.look("club", 3, 1, 1, 0, 5, 1, 0, 0);
        r.look("club", 5, 1, 0, 0, 1, 0, 1, 1);
        r.look("club", 0, 0, 0, 0, 0, 0, 0, 2);
        r.does("begin", 3, 5, 300);
        r.look("club", 3, 1, 1, 0, 5, 1, 0, 0);
    }

    // ---- 5, 3, 1, 0

    private static void wonAndLost() {
        byOne();
        bySeven();
        byEight();
    }

    private static void byOne() {
        Run r = new Run("a club that has more points wins and has 5, the other one 1: by 1");
        result(r, 2, 6, 1, 0);
        r.look("club", 2, 1, 1, 0, 5, 1, 0);
        r.look("club", 6, 1, 0, 0, 1, 0, 1);
        result(r, 2, 6, 3, 4);
        r.look("club", 2, 2, 1, 0, 6, 4, 4);
        r.look("club", 6, 2, 1, 0, 6, 4, 4);
    }

    private static void bySeven() {
        Run r = new Run("the other one 1, if it lost by at most 7: by 7");
        result(r, 2, 6, 9, 2);
        r.look("club", 2, 1, 1, 0, 5, 9, 2);
        r.look("club", 6, 1, 0, 0, 1, 2, 9);
        Run second = new Run("the other one 1, if it lost by at most 7: the side 0 by 7");
        result(second, 2, 6, 2, 9);
        second.look("club", 2, 1, 0, 0, 1, 2, 9);
        second.look("club", 6, 1, 1, 0, 5, 9, 2);
    }

    private static void byEight() {
        Run r = new Run("the other one 1, if it lost by at most 7, otherwise 0: by 8");
        result(r, 2, 6, 9, 1);
        r.look("club", 2, 1, 1, 0, 5, 9, 1);
        r.look("club", 6, 1, 0, 0, 0, 1, 9);
        Run second = new Run("the other one 1, if it lost by at most 7, otherwise 0: the side 0 by 8");
        result(second, 2, 6, 1, 9);
        second.look("club", 2, 1, 0, 0, 0, 1, 9);
        second.look("club", 6, 1, 1, 0, 5, 9, 1);
    }

    private static void even() {
        for (int points : new int[] {0, 1, 6}) {
            Run r = new Run("if they have as many, both have 3");
            result(r, 2, 6, points, points);
            r.look("club", 2, 1, 0, 1, 3, points, points);
            r.look("club", 6, 1, 0, 1, 3, points, points);
        }
    }

    private static void together() {
        Run r = new Run("25: matches, won, even, what it has, made, let: of all that were entered");
        result(r, 4, 1, 9, 1);
        result(r, 1, 4, 2, 2);
        result(r, 4, 7, 0, 3);
        result(r, 0, 4, 9, 0);
        r.look("club", 4, 4, 1, 1, 9, 11, 15, 0);
        r.look("club", 1, 2, 0, 1, 3, 3, 11, 3);
        r.look("club", 7, 1, 1, 0, 5, 3, 0, 2);
        r.look("club", 0, 1, 1, 0, 5, 9, 0, 1);
    }

    // ---- ranks

    private static void ranks() {
        lowerNumbersAtFirst();
        byWhatTheyHave();
        byFractions();
        byNearFractions();
        asExactFractions();
        ofAllPoints();
        byNoneLet();
        bothByNoneLet();
        noneByNone();
        noneByNoneAheadOfLess();
        noneBySome();
    }

    private static void ranksAre(Run r, int... ranks) {
        for (int club = 0; club < 8; club++) {
            r.due(ranks[club], "club", club, RANK);
        }
    }

    private static void lowerNumbersAtFirst() {
        ranksAre(new Run("then by lower numbers: all are alike"), 0, 1, 2, 3, 4, 5, 6, 7);
    }

    private static void byWhatTheyHave() {
        Run r = new Run("Clubs are ranked by these: ahead of the fraction");
        result(r, 7, 0, 6, 5);
        result(r, 6, 1, 1, 1);
        result(r, 5, 2, 9, 0);
        // 5 and 9 by 0; 5 and 6 by 5; 3 and 1 by 1 twice; 1 and 5 by 6; then 0: 0 by 0 twice, and 0 by 9.
        ranksAre(r, 4, 2, 7, 5, 6, 0, 3, 1);
    }

    private static void byFractions() {
        Run r = new Run("then by all points that they made divided by all that they let");
        result(r, 0, 7, 5, 4);
        result(r, 1, 6, 4, 2);
        result(r, 2, 5, 6, 5);
        // 2; 5 by 4; 6 by 5; then 5 by 6; 4 by 5; 2 by 4; and 0 by 0 twice with nothing.
        ranksAre(r, 1, 0, 2, 6, 7, 3, 5, 4);
    }

    private static void byNearFractions() {
        Run r = new Run("as an exact fraction: 29 by 28 is more than 30 by 29");
        result(r, 0, 2, 6, 5);
        result(r, 1, 3, 6, 5);
        for (int i = 0; i < 4; i++) {
            result(r, 0, 2, 6, 6);
            result(r, 1, 3, i == 0 ? 5 : 6, i == 0 ? 5 : 6);
        }
        r.look("club", 0, 5, 1, 4, 17, 30, 29, 1);
        r.look("club", 1, 5, 1, 4, 17, 29, 28, 0);
        r.due(2, "club", 2, RANK);
        r.due(3, "club", 3, RANK);
    }

    private static void asExactFractions() {
        Run r = new Run("as an exact fraction: 6 by 3 and 4 by 2 are even, 6 by 4 and 4 by 3 are not");
        result(r, 5, 0, 6, 3);
        result(r, 3, 1, 4, 2);
        r.due(0, "club", 3, RANK);
        r.due(1, "club", 5, RANK);
        r.due(2, "club", 0, RANK);
        r.due(3, "club", 1, RANK);
        Run whole = new Run("as an exact fraction: 6 by 4 and 4 by 3 are not even");
        result(whole, 5, 0, 6, 4);
        result(whole, 3, 1, 4, 3);
        whole.due(0, "club", 5, RANK);
        whole.due(1, "club", 3, RANK);
        whole.due(2, "club", 1, RANK);
        whole.due(3, "club", 0, RANK);
    }

    private static void ofAllPoints() {
        Run r = new Run("all points that they made divided by all that they let: of all matches together");
        result(r, 2, 0, 3, 1);
        result(r, 2, 0, 3, 2);
        result(r, 4, 1, 6, 5);
        result(r, 4, 1, 6, 1);
        r.look("club", 2, 2, 2, 0, 10, 6, 3, 0);
        r.look("club", 4, 2, 2, 0, 10, 12, 6, 1);
    }

    private static void byNoneLet() {
        Run r = new Run("by none let it is greater than all others");
        result(r, 0, 1, 6, 1);
        result(r, 7, 6, 1, 0);
        r.due(0, "club", 7, RANK);
        r.due(1, "club", 0, RANK);
        r.due(2, "club", 1, RANK);
        r.due(3, "club", 6, RANK);
    }

    private static void bothByNoneLet() {
        Run r = new Run("by none let it is greater than all others, then by lower numbers");
        result(r, 7, 6, 6, 0);
        result(r, 5, 4, 1, 0);
        result(r, 3, 2, 2, 0);
        r.due(0, "club", 3, RANK);
        r.due(1, "club", 5, RANK);
        r.due(2, "club", 7, RANK);
    }

    private static void noneByNone() {
        Run r = new Run("0 by 0 is 1: as 3 by 3 is, then by lower numbers");
        result(r, 6, 1, 3, 3);
        result(r, 7, 0, 0, 0);
        ranksAre(r, 0, 1, 4, 5, 6, 7, 2, 3);
        Run more = new Run("0 by 0 is 1: behind what is more, and not as none let");
        result(more, 0, 1, 0, 0);
        result(more, 0, 1, 0, 0);
        result(more, 7, 6, 6, 1);
        result(more, 7, 6, 1, 2);
        // All have 6; 7 by 3, twice 0 by 0, 3 by 7.
        more.due(0, "club", 7, RANK);
        more.due(1, "club", 0, RANK);
        more.due(2, "club", 1, RANK);
        more.due(3, "club", 6, RANK);
    }

    private static void noneByNoneAheadOfLess() {
        Run r = new Run("0 by 0 is 1: ahead of what is less");
        result(r, 7, 6, 0, 0);
        for (int i = 0; i < 3; i++) {
            result(r, 0, 1, 5, 6);
        }
        r.look("club", 0, 3, 0, 0, 3, 15, 18, 3);
        r.due(0, "club", 1, RANK);
        r.due(1, "club", 6, RANK);
        r.due(2, "club", 7, RANK);
    }

    private static void noneBySome() {
        Run r = new Run("all points that they made divided by all that they let: none by some is least");
        result(r, 1, 0, 1, 0);
        result(r, 2, 7, 6, 1);
        r.due(0, "club", 1, RANK);
        r.due(1, "club", 2, RANK);
        r.due(2, "club", 7, RANK);
        r.due(3, "club", 0, RANK);
    }
}
