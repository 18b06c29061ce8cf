/** The calls that README.md shows, with the answers that it tells. */
public final class ReadmeTest {
    private static final int NONE = Raidhall.NONE;

    public static void main(String[] args) {
        Raidhall hall = new Raidhall();
        aMatch(hall);
        aText(hall);
        theAuction(hall);
        Check.end();
    }

    private static void aMatch(Raidhall hall) {
        Check.due(1, () -> hall.begin(0, 1, 300));
        Check.due(0, () -> hall.raid(3));
        Check.due(NONE, () -> hall.step(Raidhall.TOUCH, 2, 80));
        Check.due(10, () -> hall.step(Raidhall.BACK, NONE, 120));
        Check.due(1, () -> hall.review(1, 0, 0, Raidhall.BAULK, NONE));
        Check.isSo(hall.hasReview(1));
    }

    private static void aText(Raidhall hall) {
        Play.type(hall, "raid4;bonus@50;time@300;");
        Check.due(NONE, hall::fault);
        Check.due(3, hall::run);
        Check.due(NONE, hall::enter);
        Check.due(3, () -> hall.club(1, 3));
        Check.due(1, () -> hall.club(1, 6));
    }

    private static void theAuction(Raidhall hall) {
        Check.due(NONE, () -> hall.right(5, 1));
        Check.due(30, () -> hall.call(1));
        Check.due(1, () -> hall.bid(2, 30));
        Check.due(NONE, hall::hammer);
        Check.due(5, () -> hall.answer(true));
        Check.due(970, () -> hall.squad(5, 0));
    }
}
