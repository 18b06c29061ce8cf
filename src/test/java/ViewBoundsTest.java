/** The boundaries of promises 15 to 18 and 24: a test for each sentence. */
public final class ViewBoundsTest {
    private static final int BACK = Raidhall.BACK;
    private static final int BONUS = Raidhall.BONUS;
    private static final int NONE = Raidhall.NONE;

    public static void main(String[] args) {
        sides();
        players();
        withoutAMatch();
        whatAPlayerIs();
        placesOfARow();
        nextOfARow();
        points();
        raidPoints();
        Check.end();
    }

    private static void sides() {
        for (int bad : new int[] {-1, 2, Integer.MIN_VALUE, Integer.MAX_VALUE}) {
            Run r = Run.match("15 to 18, 24: `side`: 0 or 1");
            r.index("player", bad, 0);
            r.index("out", bad, 0);
            r.index("next", bad);
            r.index("points", bad);
            r.index("raidPoints", bad, 0);
            for (int side = 0; side < 2; side++) {
                r.due(Raidhall.ON, "player", side, 0);
                r.due(NONE, "out", side, 0);
                r.due(NONE, "next", side);
                r.due(0, "points", side);
                r.due(0, "raidPoints", side, 0);
            }
        }
    }

    private static void players() {
        for (int bad : new int[] {-1, 10, Integer.MIN_VALUE, Integer.MAX_VALUE}) {
            Run r = Run.match("15, 24: `player`: 0 to 9");
            r.index("player", 0, bad);
            r.index("raidPoints", 1, bad);
            r.due(Raidhall.ON, "player", 0, 0);
            r.due(Raidhall.BENCH, "player", 0, 9);
            r.due(0, "raidPoints", 1, 0);
            r.due(0, "raidPoints", 1, 9);
        }
    }

    private static void withoutAMatch() {
        Run r = new Run("15 to 18, 24: if there is no match; if several apply, the one that is named first is thrown");
        r.index("player", 2, 0);
        r.index("player", 0, 10);
        r.state("player", 1, 9);
        r.index("out", -1, 0);
        r.index("out", 0, -1);
        r.state("out", 0, 0);
        r.state("out", 1, Integer.MAX_VALUE);
        r.index("next", 2);
        r.state("next", 1);
        r.index("points", -1);
        r.state("points", 0);
        r.index("raidPoints", 2, 0);
        r.index("raidPoints", 0, -1);
        r.state("raidPoints", 1, 9);
        r.does("begin", 0, 1, 300);
        r.due(0, "points", 0);
    }

    private static void whatAPlayerIs() {
        Run r = Run.match("at first 0 to 6 are ON the mat, 7 to 9 on the BENCH; 15: Returns ON to GONE");
        r.look("player", 0, 0, 0, 0, 0, 0, 0, 0, 1, 1, 1);
        r.look("player", 1, 0, 0, 0, 0, 0, 0, 0, 1, 1, 1);
        r.does("card", 0, 0, 1);
        r.does("card", 0, 1, 2);
        r.does("change", 0, 2, 8);
        r.fall(8);
        r.look("player", 0, 3, 4, 1, 0, 0, 0, 0, 1, 2, 1);
        r.look("player", 1, 0, 0, 0, 0, 0, 0, 0, 1, 1, 1);
    }

    private static void placesOfARow() {
        Run r = Run.match("16: `place`: from 0; NONE if there are not so many");
        r.touch(0, 6, 2, 4);
        for (int bad : new int[] {-1, -2, Integer.MIN_VALUE}) {
            r.index("out", 1, bad);
            r.index("out", 0, bad);
        }
        r.look("out", 1, 6, 2, 4, NONE, NONE, NONE, NONE, NONE, NONE, NONE, NONE);
        r.due(NONE, "out", 1, Integer.MAX_VALUE);
        r.due(NONE, "out", 0, 0);
        r.due(NONE, "out", 0, Integer.MAX_VALUE);
    }

    private static void nextOfARow() {
        Run r = Run.match("17: Returns the player; NONE if nobody is OUT");
        r.due(NONE, "next", 1);
        r.touch(0, 6, 2);
        r.due(6, "next", 1);
        r.due(NONE, "next", 0);
        r.empty(0, 20);
        r.fall(0);
        r.due(2, "next", 1);
        r.due(0, "next", 0);
        r.touch(0, 5);
        r.due(NONE, "next", 1);
    }

    private static void points() {
        Run r = Run.match("18: Returns the points of a side");
        r.touch(0, 6, 2);
        r.due(2, "points", 0);
        r.due(0, "points", 1);
        r.raid(0, Raidhall.LINE, 20, BONUS);
        r.due(3, "points", 0);
        r.due(1, "points", 1);
        r.does("card", 0, 5, 2);
        r.due(2, "points", 1);
    }

    private static void raidPoints() {
        touchesAndBonus();
        notPointsOfOthers();
        raidsThatHaveEnded();
        raidsTakenBack();
    }

    private static void touchesAndBonus() {
        Run r = Run.match("24: how many points a player made as a raider: touches and bonus");
        r.raid(3, BACK, 20, BONUS, 14, 15);
        r.due(3, "raidPoints", 0, 3);
        r.empty(3, 20);
        r.raid(3, BACK, 20, BONUS);
        // Five stood, so that BONUS is no bonus.
        r.due(3, "raidPoints", 0, 3);
        r.raid(3, Raidhall.FALL, 20, BONUS, 10);
        r.due(1, "raidPoints", 1, 3);
        r.raid(3, Raidhall.TIME, 300, 10, 11);
        r.due(3, "raidPoints", 0, 3);
    }

    private static void notPointsOfOthers() {
        Run r = Run.match("24: touches and bonus: not points for an all-out, a raider held, or a card");
        r.raid(3, BACK, 20, 10, 11, 12, 13, 14, 15, 16);
        r.due(9, "points", 0);
        r.due(7, "raidPoints", 0, 3);
        r.fall(3);
        r.does("card", 1, 0, 2);
        r.due(11, "points", 0);
        for (int player = 0; player < 10; player++) {
            r.due(player == 3 ? 7 : 0, "raidPoints", 0, player);
            r.due(0, "raidPoints", 1, player);
        }
    }

    private static void raidsThatHaveEnded() {
        Run r = Run.match("24: touches and bonus of raids that have ended");
        r.does("raid", 3);
        r.does("step", Raidhall.TOUCH, 1, 5);
        r.does("step", BONUS, NONE, 6);
        r.due(0, "raidPoints", 0, 3);
        r.does("step", BACK, NONE, 7);
        r.due(2, "raidPoints", 0, 3);
    }

    private static void raidsTakenBack() {
        Run r = Run.match("24: touches and bonus of raids: not of those taken back, and as they were reviewed");
        r.raid(3, BACK, 20, Raidhall.BAULK, 11);
        r.due(1, "review", 0, 0, 0, BONUS, NONE);
        r.due(2, "raidPoints", 0, 3);
        r.touch(3, 1);
        r.due(1, "raidPoints", 1, 3);
        r.does("takeBack", 1);
        r.due(0, "raidPoints", 1, 3);
        r.due(2, "raidPoints", 0, 3);
        r.does("takeBack", 0);
        r.due(0, "raidPoints", 0, 3);
    }
}
