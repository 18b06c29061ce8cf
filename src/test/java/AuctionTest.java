/** Promises 26 right, 27 call, 28 bid, 29 hammer, 30 answer, 31 lot, 32 squad. */
public final class AuctionTest {
    public static void main(String[] args) {
        noSuch();
        basePrices();
        calls();
        bids();
        hammers();
        rights();
        rightsThatAreNotAsked();
        answers();
        purses();
        squadsAreFull();
        foreignOnes();
        Check.end();
    }

    private static void noSuch() {
        Raidhall x = new Raidhall();
        for (int bad : new int[] {-1, 8, Integer.MAX_VALUE, Integer.MIN_VALUE}) {
            Check.refusedAsIndex(() -> x.right(bad, 0));
            Check.refusedAsIndex(() -> x.bid(bad, 0));
            Check.refusedAsIndex(() -> x.squad(bad, 9));
        }
        for (int bad : new int[] {-1, 24, Integer.MAX_VALUE, Integer.MIN_VALUE}) {
            Check.refusedAsIndex(() -> x.right(0, bad));
            Check.refusedAsIndex(() -> x.call(bad));
            Check.refusedAsIndex(() -> x.lot(bad, 9));
        }
        Check.refusedAsArgument(() -> x.lot(0, -1));
        Check.refusedAsArgument(() -> x.lot(0, 4));
        Check.refusedAsArgument(() -> x.squad(0, -1));
        Check.refusedAsArgument(() -> x.squad(0, 3));
        Check.refusedAsArgument(() -> x.bid(0, 0));
        Check.refusedAsArgument(() -> x.bid(0, 1001));
        Check.refusedAsState(() -> x.bid(0, 1000));
        Check.refusedAsState(x::hammer);
        Check.refusedAsState(() -> x.answer(false));
    }

    private static void basePrices() {
        Raidhall x = new Raidhall();
        int[] base = {50, 30, 10};
        for (int lot = 0; lot < 24; lot++) {
            int l = lot;
            Check.due(base[l % 3], () -> x.call(l));
            Check.refusedAsState(() -> x.bid(0, base[l % 3] - 1));
            Check.due(-1, x::hammer);
        }
    }

    private static void calls() {
        Raidhall x = new Raidhall();
        x.call(3);
        Check.refusedAsState(() -> x.call(3));
        Check.refusedAsState(() -> x.call(4));
        Check.due(-1, x::hammer);
        Check.due(50, () -> x.call(3));
        x.bid(0, 50);
        Check.due(0, x::hammer);
        Check.refusedAsState(() -> x.call(3));
        Check.due(30, () -> x.call(4));
    }

    private static void bids() {
        Raidhall x = new Raidhall();
        x.call(1);
        Check.due(-1, () -> x.lot(1, 3));
        Check.refusedAsState(() -> x.bid(0, 29));
        Check.due(1, () -> x.bid(0, 30));
        Check.due(30, () -> x.lot(1, 3));
        Check.due(-1, () -> x.lot(2, 3));
        Check.refusedAsState(() -> x.bid(1, 34));
        Check.due(2, () -> x.bid(1, 35));
        Check.due(3, () -> x.bid(1, 40));
        Check.due(4, () -> x.bid(7, 1000));
        Check.refusedAsState(() -> x.bid(0, 1000));
        Check.due(1000, () -> x.lot(1, 3));
        Check.due(7, x::hammer);
        Check.due(0, () -> x.squad(7, 0));
        Check.due(-1, () -> x.lot(1, 3));
        Check.refusedAsState(() -> x.bid(0, 1000));
        x.call(2);
        Check.refusedAsState(() -> x.bid(7, 10));
        Check.due(1, () -> x.bid(6, 10));
        Check.due(6, x::hammer);
        Check.due(990, () -> x.squad(6, 0));
    }

    private static void hammers() {
        Raidhall x = new Raidhall();
        x.call(0);
        Check.due(-1, x::hammer);
        Check.refusedAsState(x::hammer);
        Check.due(-1, () -> x.lot(0, 0));
        x.call(0);
        x.bid(2, 60);
        x.bid(3, 65);
        Check.due(3, x::hammer);
        Check.refusedAsState(x::hammer);
        Check.refusedAsState(() -> x.answer(true));
        Check.due(3, () -> x.lot(0, 0));
        Check.due(65, () -> x.lot(0, 1));
        Check.due(-1, () -> x.lot(0, 3));
        Check.due(935, () -> x.squad(3, 0));
        Check.due(1, () -> x.squad(3, 1));
        Check.due(1, () -> x.squad(3, 2));
        Check.due(1000, () -> x.squad(2, 0));
        x.call(1);
        x.bid(3, 30);
        x.hammer();
        Check.due(2, () -> x.squad(3, 1));
        Check.due(1, () -> x.squad(3, 2));
        x.call(5);
        x.bid(3, 100);
        x.hammer();
        x.call(5 + 3);
        x.hammer();
        x.call(8);
        Check.due(1, () -> x.bid(4, 10));
        Check.due(10, () -> x.lot(8, 3));
    }

    private static void rights() {
        Raidhall x = new Raidhall();
        Check.due(-1, () -> x.right(4, 9));
        Check.due(4, () -> x.lot(9, 2));
        Check.due(4, () -> x.right(5, 9));
        Check.due(5, () -> x.right(5, 9));
        Check.due(-1, () -> x.right(5, 10));
        x.call(9);
        Check.refusedAsState(() -> x.right(1, 9));
        Check.due(-1, () -> x.right(1, 11));
        Check.due(-1, x::hammer);
        Check.due(5, () -> x.lot(9, 2));
        Check.due(5, () -> x.right(6, 9));
        x.call(9);
        x.bid(0, 50);
        Check.due(-1, x::hammer);
        Check.due(6, () -> x.lot(9, 2));
        Check.refusedAsState(() -> x.right(1, 9));
        Check.due(1, () -> x.right(2, 11));
        Check.due(0, () -> x.answer(false));
        Check.due(-1, () -> x.lot(9, 2));
        Check.refusedAsState(() -> x.right(1, 9));
        Check.refusedAsIndex(() -> x.right(8, 9));
    }

    private static void rightsThatAreNotAsked() {
        Raidhall own = new Raidhall();
        own.right(4, 9);
        own.call(9);
        own.bid(4, 50);
        Check.due(4, own::hammer);
        Check.due(4, () -> own.lot(9, 2));
        Raidhall poor = new Raidhall();
        poor.right(4, 9);
        poor.call(1);
        poor.bid(4, 951);
        poor.hammer();
        poor.call(9);
        poor.bid(5, 50);
        Check.due(5, poor::hammer);
        Check.due(4, () -> poor.lot(9, 2));
        Raidhall justEnough = new Raidhall();
        justEnough.right(4, 9);
        justEnough.call(1);
        justEnough.bid(4, 950);
        justEnough.hammer();
        justEnough.call(9);
        justEnough.bid(5, 50);
        Check.due(-1, justEnough::hammer);
        Check.due(4, () -> justEnough.answer(true));
        Check.due(0, () -> justEnough.squad(4, 0));
        Raidhall foreign = new Raidhall();
        foreign.right(4, 8);
        for (int lot = 0; lot < 8; lot += 4) {
            foreign.call(lot);
            foreign.bid(4, 50);
            foreign.hammer();
        }
        foreign.call(8);
        foreign.bid(5, 50);
        Check.due(5, foreign::hammer);
    }

    private static void answers() {
        for (int taken = 0; taken < 2; taken++) {
            boolean isTaken = taken == 1;
            Raidhall x = new Raidhall();
            x.right(0, 4);
            x.call(4);
            x.bid(7, 100);
            Check.refusedAsState(() -> x.answer(isTaken));
            Check.due(-1, x::hammer);
            Check.refusedAsState(x::hammer);
            Check.refusedAsState(() -> x.bid(1, 200));
            Check.refusedAsState(() -> x.call(5));
            Check.due(100, () -> x.lot(4, 3));
            Check.due(-1, () -> x.lot(4, 0));
            Check.due(-1, () -> x.lot(4, 1));
            Check.due(1000, () -> x.squad(7, 0));
            int buyer = isTaken ? 0 : 7;
            Check.due(buyer, () -> x.answer(isTaken));
            Check.refusedAsState(() -> x.answer(isTaken));
            Check.due(buyer, () -> x.lot(4, 0));
            Check.due(100, () -> x.lot(4, 1));
            Check.due(-1, () -> x.lot(4, 2));
            Check.due(-1, () -> x.lot(4, 3));
            Check.due(900, () -> x.squad(buyer, 0));
            Check.due(1, () -> x.squad(buyer, 1));
            Check.due(1, () -> x.squad(buyer, 2));
            Check.due(1000, () -> x.squad(7 - buyer, 0));
            Check.due(0, () -> x.squad(7 - buyer, 1));
            Check.due(10, () -> x.call(5));
            Check.due(1, () -> x.bid(1, 10));
            Check.due(1, x::hammer);
        }
    }

    private static void purses() {
        Raidhall x = new Raidhall();
        x.call(1);
        x.bid(2, 600);
        x.hammer();
        x.call(2);
        Check.refusedAsState(() -> x.bid(2, 401));
        Check.due(1, () -> x.bid(2, 400));
        x.hammer();
        Check.due(0, () -> x.squad(2, 0));
    }

    private static void squadsAreFull() {
        Raidhall x = new Raidhall();
        int[] lots = {1, 2, 3, 5, 6, 7};
        for (int lot : lots) {
            x.call(lot);
            Check.due(1, () -> x.bid(3, 50));
            Check.due(3, x::hammer);
        }
        Check.due(6, () -> x.squad(3, 1));
        Check.due(0, () -> x.squad(3, 2));
        x.right(3, 10);
        x.call(10);
        Check.refusedAsState(() -> x.bid(3, 50));
        Check.due(1, () -> x.bid(4, 50));
        Check.due(4, x::hammer);
    }

    private static void foreignOnes() {
        Raidhall x = new Raidhall();
        for (int lot = 0; lot < 24; lot++) {
            int l = lot;
            int club = l / 4;
            x.call(l);
            x.bid(club, 50);
            x.hammer();
            Check.due(1, () -> x.squad(club, 2));
            Check.due(l % 4 + 1, () -> x.squad(club, 1));
        }
        Raidhall y = new Raidhall();
        y.call(0);
        y.bid(1, 50);
        y.hammer();
        y.call(20);
        y.bid(1, 50);
        y.hammer();
        Check.due(2, () -> y.squad(1, 2));
        y.call(12);
        Check.refusedAsState(() -> y.bid(1, 50));
        Check.due(1, () -> y.bid(2, 50));
        y.hammer();
        y.call(13);
        Check.due(1, () -> y.bid(1, 50));
    }
}
