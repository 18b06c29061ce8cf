/** Promises 5 card and 6 change. */
public final class CardTest {
    public static void main(String[] args) {
        cardRefuses();
        coloursGoUp();
        threeAtATime();
        yellowEnds();
        redGivesAPoint();
        allOutByACard();
        changeRefuses();
        changeAnswers();
        cardsStayWithThePlayer();
        Check.end();
    }

    private static void cardRefuses() {
        Raidhall none = new Raidhall();
        Check.refusedAsIndex(() -> none.card(2, 0, 0));
        Check.refusedAsArgument(() -> none.card(0, 0, 3));
        Check.refusedAsState(() -> none.card(0, 0, 2));
        Raidhall x = Play.match();
        Check.refusedAsIndex(() -> x.card(-1, 0, 0));
        Check.refusedAsIndex(() -> x.card(2, 0, 9));
        Check.refusedAsIndex(() -> x.card(0, -1, 0));
        Check.refusedAsIndex(() -> x.card(0, 10, 9));
        Check.refusedAsArgument(() -> x.card(0, 7, -1));
        Check.refusedAsArgument(() -> x.card(0, 7, 3));
        Check.refusedAsState(() -> x.card(0, 7, 0));
        x.card(0, 0, 1);
        x.card(0, 1, 2);
        Check.refusedAsState(() -> x.card(0, 0, 0));
        Check.refusedAsState(() -> x.card(0, 1, 0));
        Play.fall(x, 2);
        Check.refusedAsState(() -> x.card(0, 2, 0));
        x.raid(0);
        Check.refusedAsState(() -> x.card(1, 1, 0));
        x.step(Raidhall.BACK, -1, 1);
        Check.due(0, () -> x.card(1, 1, 0));
    }

    private static void coloursGoUp() {
        Raidhall x = Play.match();
        Check.due(0, () -> x.card(0, 4, 0));
        Check.due(0, () -> x.player(0, 4));
        Check.due(0, () -> x.points(1));
        Check.due(0, () -> x.card(1, 4, 0));
        Check.due(1, () -> x.card(0, 4, 0));
        Check.due(3, () -> x.player(0, 4));
        Check.due(1, () -> x.card(0, 5, 1));
        Play.passEmpty(x, 4);
        Check.due(0, () -> x.player(0, 4));
        Check.due(0, () -> x.player(0, 5));
        Check.due(2, () -> x.card(0, 4, 0));
        Check.due(4, () -> x.player(0, 4));
        Check.due(0, () -> x.card(0, 5, 0));
        Check.due(2, () -> x.card(0, 5, 1));
        Check.due(2, () -> x.card(0, 6, 2));
        Check.due(3, () -> x.points(1) - pointsOfRaids(x));
    }

    private static int pointsOfRaids(Raidhall x) {
        int made = 0;
        for (int i = 0; i < 10; i++) {
            made += x.raidPoints(1, i);
        }
        return made;
    }

    private static void threeAtATime() {
        Raidhall x = Play.match();
        Check.due(2, () -> x.card(0, 0, 2));
        Check.due(1, () -> x.card(0, 1, 1));
        Check.due(0, () -> x.card(0, 3, 0));
        Check.due(1, () -> x.card(0, 2, 1));
        Check.refusedAsState(() -> x.card(0, 4, 1));
        Check.refusedAsState(() -> x.card(0, 4, 2));
        Check.due(0, () -> x.card(0, 4, 0));
        Check.refusedAsState(() -> x.card(0, 4, 0));
        Check.refusedAsState(() -> x.card(0, 3, 0));
        Check.due(2, () -> x.card(1, 4, 2));
        Play.passEmpty(x, 4);
        Check.due(0, () -> x.player(0, 1));
        Check.due(1, () -> x.card(0, 4, 0));
        Check.due(1, () -> x.card(0, 5, 1));
        Check.refusedAsState(() -> x.card(0, 6, 2));
    }

    private static void yellowEnds() {
        Raidhall x = Play.match();
        x.card(1, 0, 1);
        Play.passEmpty(x, 3);
        Play.empty(x, 1, 299);
        Check.due(1199, () -> x.match(0));
        Check.due(3, () -> x.player(1, 0));
        Check.due(126, () -> x.matAfter(4, 1));
        Play.fall(x, 1);
        Check.due(0, () -> x.player(1, 0));
        Check.due(127, () -> x.matAfter(5, 1));
        Raidhall exact = Play.match();
        Play.empty(exact, 0, 300);
        exact.card(1, 0, 1);
        Play.passEmpty(exact, 3);
        Check.due(3, () -> exact.player(1, 0));
        Play.passEmpty(exact, 1);
        Check.due(1500, () -> exact.match(0));
        Check.due(0, () -> exact.player(1, 0));
        Check.due(125, () -> exact.matAfter(5, 1));
        Raidhall gone = Play.match();
        gone.card(1, 0, 2);
        Play.passEmpty(gone, 6);
        Check.due(4, () -> gone.player(1, 0));
    }

    private static void redGivesAPoint() {
        Raidhall x = Play.match();
        Check.due(2, () -> x.card(1, 0, 2));
        Check.due(1, () -> x.points(0));
        Check.due(0, () -> x.points(1));
        Check.due(1, () -> x.card(1, 1, 1));
        Check.due(0, () -> x.card(1, 2, 0));
        Check.due(1, () -> x.points(0));
        Check.due(2, () -> x.card(0, 1, 2));
        Check.due(1, () -> x.points(1));
        Check.due(0, () -> x.raidPoints(0, 0));
    }

    /** Side 1 has one player ON, the number 6; 0 to 5 are OUT. */
    private static Raidhall oneLeft() {
        Raidhall x = Play.match();
        Play.raid(x, 0, 9, Raidhall.BACK, Play.touch(0), Play.touch(1), Play.touch(2), Play.touch(3), Play.touch(4),
                Play.touch(5));
        return x;
    }

    private static void allOutByACard() {
        Raidhall yellow = oneLeft();
        Check.due(1, () -> yellow.card(1, 6, 1));
        Check.due(8, () -> yellow.points(0));
        Check.due(63, () -> yellow.matAfter(1, 1));
        Check.due(3, () -> yellow.player(1, 6));
        Check.due(-1, () -> yellow.next(1));
        Raidhall red = oneLeft();
        Check.due(2, () -> red.card(1, 6, 2));
        Check.due(9, () -> red.points(0));
        Check.due(63, () -> red.matAfter(1, 1));
        Raidhall green = oneLeft();
        Check.due(0, () -> green.card(1, 6, 0));
        Check.due(6, () -> green.points(0));
        Check.due(64, () -> green.matAfter(1, 1));
    }

    private static void changeRefuses() {
        Raidhall none = new Raidhall();
        Check.refusedAsIndex(() -> none.change(0, 0, 10));
        Check.refusedAsState(() -> none.change(0, 0, 7));
        Raidhall x = Play.match();
        Check.refusedAsIndex(() -> x.change(-1, 0, 7));
        Check.refusedAsIndex(() -> x.change(2, 0, 7));
        Check.refusedAsIndex(() -> x.change(0, -1, 7));
        Check.refusedAsIndex(() -> x.change(0, 10, 7));
        Check.refusedAsIndex(() -> x.change(0, 0, -1));
        Check.refusedAsIndex(() -> x.change(0, 0, 10));
        Check.refusedAsState(() -> x.change(0, 0, 1));
        Check.refusedAsState(() -> x.change(0, 0, 0));
        Check.refusedAsState(() -> x.change(0, 7, 8));
        Check.refusedAsState(() -> x.change(0, 7, 7));
        x.card(0, 1, 1);
        x.card(0, 2, 2);
        Play.fall(x, 3);
        Check.refusedAsState(() -> x.change(0, 1, 7));
        Check.refusedAsState(() -> x.change(0, 2, 7));
        Check.refusedAsState(() -> x.change(0, 3, 7));
        Check.refusedAsState(() -> x.change(0, 4, 3));
        x.raid(0);
        Check.refusedAsState(() -> x.change(0, 0, 7));
    }

    private static void changeAnswers() {
        Raidhall x = Play.match();
        Check.due(1, () -> x.change(0, 0, 9));
        Check.due(1, () -> x.player(0, 0));
        Check.due(0, () -> x.player(0, 9));
        Check.due(1, () -> x.match(2));
        Check.due(126 + 512, () -> x.matAfter(0, 0));
        Check.due(127, () -> x.matAfter(0, 1));
        Check.refusedAsState(() -> x.change(0, 0, 7));
        Check.due(2, () -> x.change(0, 9, 0));
        Check.due(1, () -> x.change(1, 3, 8));
        Check.due(3, () -> x.change(0, 1, 7));
        Check.due(4, () -> x.change(0, 2, 8));
        Check.due(5, () -> x.change(0, 3, 9));
        Check.refusedAsState(() -> x.change(0, 4, 1));
        Check.due(2, () -> x.change(1, 4, 9));
        Check.due(0, () -> x.points(0) + x.points(1));
        Check.due(7, () -> x.raid(7));
    }

    private static void cardsStayWithThePlayer() {
        Raidhall x = Play.match();
        x.card(0, 0, 0);
        x.change(0, 0, 7);
        x.change(0, 7, 0);
        Check.due(1, () -> x.card(0, 0, 0));
    }
}
