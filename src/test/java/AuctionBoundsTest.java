/** The boundaries of promises 26 to 32, and of the terms of the auction: a test for each sentence. */
public final class AuctionBoundsTest {
    private static final int NONE = Raidhall.NONE;
    private static final int[] BASES = {50, 30, 10};

    public static void main(String[] args) {
        right();
        call();
        bid();
        whatAClubCanBid();
        hammer();
        whoIsAsked();
        answer();
        lot();
        squad();
        Check.end();
    }

    // ---- promise 26

    private static void right() {
        clubsAndLotsOfARight();
        inPlaceOfOneToldBefore();
        aheadOfTheCall();
        notWhenSold();
        rightThrowsTheFirst();
    }

    private static void clubsAndLotsOfARight() {
        Run r = new Run("26: `club`: 0 to 7; `lot`: 0 to 23");
        for (int bad : new int[] {-1, 8, Integer.MIN_VALUE, Integer.MAX_VALUE}) {
            r.index("right", bad, 0);
        }
        for (int bad : new int[] {-1, 24, Integer.MIN_VALUE, Integer.MAX_VALUE}) {
            r.index("right", 0, bad);
        }
        r.due(NONE, "right", 0, 0);
        r.due(NONE, "right", 7, 23);
        r.due(0, "lot", 0, 2);
        r.due(7, "lot", 23, 2);
    }

    private static void inPlaceOfOneToldBefore() {
        Run r = new Run("26: in place of one told before; Returns which club had it, NONE");
        r.due(NONE, "right", 4, 9);
        r.due(4, "right", 0, 9);
        r.due(0, "right", 0, 9);
        r.due(0, "right", 7, 9);
        r.due(7, "lot", 9, 2);
        r.due(NONE, "right", 7, 10);
    }

    private static void aheadOfTheCall() {
        Run r = new Run("A right is told ahead of the call; 26: if the lot is called");
        r.due(NONE, "right", 4, 9);
        r.does("call", 9);
        r.state("right", 5, 9);
        r.due(NONE, "right", 5, 8);
        r.does("bid", 1, 50);
        r.state("right", 5, 9);
        r.due(NONE, "hammer");
        r.state("right", 5, 9);
        r.due(5, "right", 6, 8);
        Run again = new Run("26: if the lot is called: it is not, when it had no bid");
        again.does("call", 9);
        again.state("right", 5, 9);
        again.due(NONE, "hammer");
        again.due(NONE, "right", 5, 9);
        again.does("call", 9);
        again.state("right", 6, 9);
    }

    private static void notWhenSold() {
        Run r = new Run("26: or sold");
        r.due(NONE, "right", 3, 9);
        r.sell(9, 3, 50);
        r.state("right", 5, 9);
        r.state("right", 3, 9);
        r.due(NONE, "right", 5, 10);
    }

    private static void rightThrowsTheFirst() {
        Run r = new Run("26: if several apply, the one that is named first is thrown");
        r.does("call", 9);
        r.index("right", 8, 9);
        r.index("right", -1, 9);
        r.state("right", 7, 9);
    }

    // ---- promise 27

    private static void call() {
        lotsOfACall();
        basePrices();
        oneAtATime();
        notASoldOne();
        againWithoutABid();
        callThrowsTheFirst();
    }

    private static void lotsOfACall() {
        for (int bad : new int[] {-1, 24, Integer.MIN_VALUE, Integer.MAX_VALUE}) {
            Run r = new Run("There are the lots 0 to 23; 27: `lot`: 0 to 23");
            r.index("call", bad);
            r.due(bad < 0 ? 50 : 10, "call", bad < 0 ? 0 : 23);
        }
    }

    private static void basePrices() {
        for (int lot = 0; lot < 24; lot++) {
            int base = BASES[lot % 3];
            Run r = new Run("the base price of a lot is 50, 30 or 10 for its number modulo 3; A bid is at least that");
            r.due(base, "call", lot);
            r.state("bid", 0, base - 1);
            r.due(1, "bid", 0, base);
        }
    }

    private static void oneAtATime() {
        Run r = new Run("Lots are called one at a time; 27: if a lot is called");
        r.does("right", 2, 3);
        r.does("call", 3);
        r.state("call", 3);
        r.state("call", 4);
        r.does("bid", 1, 50);
        r.state("call", 4);
        r.due(NONE, "hammer");
        r.state("call", 4);
        r.state("call", 3);
        r.due(2, "answer", 1);
        r.due(30, "call", 4);
        r.due(NONE, "hammer");
        r.due(10, "call", 5);
    }

    private static void notASoldOne() {
        Run r = new Run("27: or this one is sold");
        r.sell(3, 1, 50);
        r.state("call", 3);
        r.due(50, "call", 6);
        r.state("call", 3);
        Run answered = new Run("27: or this one is sold: by an answer");
        answered.does("right", 2, 3);
        answered.does("call", 3);
        answered.does("bid", 1, 50);
        answered.does("hammer");
        answered.does("answer", 0);
        answered.state("call", 3);
        answered.due(30, "call", 4);
    }

    private static void againWithoutABid() {
        Run r = new Run("without a bid it can be called again");
        r.due(50, "call", 3);
        r.due(NONE, "hammer");
        r.due(50, "call", 3);
        r.due(1, "bid", 1, 50);
        r.due(1, "hammer");
        r.state("call", 3);
    }

    private static void callThrowsTheFirst() {
        Run r = new Run("27: if several apply, the one that is named first is thrown");
        r.does("call", 3);
        r.index("call", 24);
        r.index("call", -1);
        r.state("call", 23);
    }

    // ---- promise 28

    private static void bid() {
        clubsOfABid();
        amountsOfABid();
        aLotMustBeCalled();
        fiveAbove();
        bidsAreCounted();
        bidThrowsTheFirst();
    }

    private static void clubsOfABid() {
        Run r = new Run("28: `club`: 0 to 7");
        r.does("call", 1);
        for (int bad : new int[] {-1, 8, Integer.MIN_VALUE, Integer.MAX_VALUE}) {
            r.index("bid", bad, 100);
        }
        r.due(1, "bid", 0, 30);
        r.due(2, "bid", 7, 35);
    }

    private static void amountsOfABid() {
        Run r = new Run("28: `amount`: 1 to 1000");
        r.does("call", 2);
        for (int bad : new int[] {0, 1001, -1, Integer.MIN_VALUE, Integer.MAX_VALUE}) {
            r.argument("bid", 0, bad);
        }
        // 1 is in range, but too low for each lot.
        r.state("bid", 0, 1);
        r.due(1, "bid", 0, 1000);
    }

    private static void aLotMustBeCalled() {
        Run r = new Run("28: if no lot is called, it has had the hammer");
        r.state("bid", 0, 50);
        r.does("right", 4, 3);
        r.does("call", 3);
        r.due(1, "bid", 0, 50);
        r.due(NONE, "hammer");
        r.state("bid", 1, 60);
        r.state("bid", 4, 60);
        r.due(0, "answer", 0);
        r.state("bid", 1, 60);
        r.does("call", 6);
        r.due(1, "bid", 1, 60);
        r.due(1, "hammer");
        r.state("bid", 1, 70);
        r.does("call", 7);
        r.due(NONE, "hammer");
        r.state("bid", 1, 70);
    }

    private static void fiveAbove() {
        Run r = new Run("A bid is at least 5 above the bid ahead; 28: the amount is too low");
        r.does("call", 1);
        r.due(1, "bid", 0, 30);
        r.state("bid", 1, 30);
        r.state("bid", 1, 34);
        r.due(2, "bid", 1, 35);
        r.state("bid", 0, 39);
        r.state("bid", 0, 1);
        r.due(3, "bid", 0, 995);
        r.state("bid", 1, 999);
        r.due(4, "bid", 1, 1000);
        r.state("bid", 0, 1000);
        r.due(1000, "lot", 1, 3);
        Run none = new Run("A bid is at least 5 above the bid ahead: of the call, not of one before");
        none.sell(1, 0, 500);
        none.does("call", 4);
        none.due(1, "bid", 1, 30);
        Run open = new Run("at least 5 above the bid ahead: nothing is left above 995");
        open.does("call", 1);
        open.due(1, "bid", 0, 996);
        open.state("bid", 1, 1000);
    }

    private static void bidsAreCounted() {
        Run r = new Run("28: Returns how many bids there are for it then");
        r.does("call", 2);
        for (int count = 1; count <= 5; count++) {
            r.state("bid", 3, 10 * count - 6);
            r.due(count, "bid", 3, 10 * count);
        }
        r.due(3, "hammer");
        r.does("call", 3);
        r.due(1, "bid", 0, 50);
    }

    private static void bidThrowsTheFirst() {
        Run r = new Run("28: if several apply, the one that is named first is thrown");
        r.index("bid", 8, 1001);
        r.index("bid", -1, 50);
        r.argument("bid", 7, 1001);
        r.argument("bid", 0, 0);
        r.state("bid", 7, 1000);
    }

    private static void whatAClubCanBid() {
        whatItsPurseHas();
        sixLots();
        twoForeign();
        foreignLots();
    }

    private static void whatItsPurseHas() {
        Run r = new Run("a club can bid what its purse has; 28: the club cannot bid so much");
        r.sell(1, 2, 600);
        r.due(400, "squad", 2, 0);
        r.does("call", 2);
        r.state("bid", 2, 401);
        r.due(1, "bid", 2, 400);
        r.due(2, "bid", 3, 405);
        r.due(3, "hammer");
        r.sell(5, 2, 400);
        r.due(0, "squad", 2, 0);
        r.does("call", 8);
        r.state("bid", 2, 10);
        r.due(1, "bid", 3, 595);
    }

    private static void sixLots() {
        Run r = new Run("a squad of at most 6 lots; if its squad has room for the lot");
        int[] lots = {1, 2, 3, 5, 6};
        for (int i = 0; i < lots.length; i++) {
            r.sell(lots[i], 3, 50);
            r.due(i + 1, "squad", 3, 1);
        }
        r.does("call", 7);
        r.due(1, "bid", 3, 30);
        r.due(3, "hammer");
        r.due(6, "squad", 3, 1);
        r.does("call", 10);
        r.state("bid", 3, 30);
        r.state("bid", 3, 700);
        r.due(1, "bid", 4, 30);
    }

    private static void twoForeign() {
        Run r = new Run("6 lots, 2 of them foreign at most; if its squad has room for the lot");
        r.sell(0, 3, 50);
        r.due(1, "squad", 3, 2);
        r.does("call", 4);
        r.due(1, "bid", 3, 30);
        r.due(3, "hammer");
        r.due(2, "squad", 3, 2);
        r.does("call", 8);
        r.state("bid", 3, 10);
        r.due(1, "bid", 4, 10);
        r.due(4, "hammer");
        r.does("call", 9);
        r.due(1, "bid", 3, 50);
        r.due(3, "hammer");
        r.look("squad", 3, 870, 3, 2);
    }

    private static void foreignLots() {
        for (int lot = 0; lot < 24; lot++) {
            Run r = new Run("lots whose number is divided by 4 are foreign");
            r.sell(lot, 3, 50);
            r.look("squad", 3, 950, 1, lot % 4 == 0 ? 1 : 0);
        }
    }

    // ---- promise 29

    private static void hammer() {
        hammerNeedsALot();
        hammerWithoutABid();
        hammerSells();
    }

    private static void hammerNeedsALot() {
        Run r = new Run("29: if no lot is called, or it has had the hammer");
        r.state("hammer");
        r.does("call", 3);
        r.due(NONE, "hammer");
        r.state("hammer");
        r.does("right", 5, 3);
        r.does("call", 3);
        r.does("bid", 0, 50);
        r.due(NONE, "hammer");
        r.state("hammer");
        r.due(5, "answer", 1);
        r.state("hammer");
        r.does("call", 4);
        r.does("bid", 0, 50);
        r.due(0, "hammer");
        r.state("hammer");
    }

    private static void hammerWithoutABid() {
        Run r = new Run("29: NONE if there was no bid");
        r.does("right", 5, 3);
        r.does("call", 3);
        r.due(NONE, "hammer");
        r.look("lot", 3, NONE, NONE, 5, NONE);
        r.state("answer", 1);
        r.due(50, "call", 3);
    }

    private static void hammerSells() {
        Run r = new Run("With the hammer the lot is sold to the highest bidder");
        r.does("call", 3);
        r.does("bid", 0, 50);
        r.does("bid", 7, 55);
        r.due(7, "hammer");
        r.look("lot", 3, 7, 55, NONE, NONE);
        r.look("squad", 7, 945, 1, 0);
        r.look("squad", 0, 1000, 0, 0);
        r.state("answer", 1);
        Run last = new Run("With the hammer the lot is sold to the highest bidder: one who bid before, too");
        last.does("call", 3);
        last.does("bid", 0, 50);
        last.does("bid", 7, 55);
        last.does("bid", 0, 60);
        last.due(0, "hammer");
        last.look("squad", 0, 940, 1, 0);
    }

    // ---- who is asked first

    private static void whoIsAsked() {
        anotherClubThanThat();
        couldBidAsMuch();
        hasRoomForIt();
        hasRoomForAForeignOne();
        ofThisLotAlone();
    }

    private static void anotherClubThanThat() {
        Run own = new Run("if another club than that has the right to match: the highest bidder has it");
        own.does("right", 4, 9);
        own.does("call", 9);
        own.does("bid", 5, 50);
        own.does("bid", 4, 55);
        own.due(4, "hammer");
        own.state("answer", 1);
        Run other = new Run("if another club than that has the right to match: one that bid less has it");
        other.does("right", 4, 9);
        other.does("call", 9);
        other.does("bid", 4, 50);
        other.does("bid", 5, 55);
        other.due(NONE, "hammer");
        other.due(4, "answer", 1);
        other.due(945, "squad", 4, 0);
        Run none = new Run("if another club than that has the right to match: none has");
        none.does("call", 9);
        none.does("bid", 5, 50);
        none.due(5, "hammer");
    }

    private static void couldBidAsMuch() {
        Run poor = new Run("and could bid as much: its purse has 1 less");
        poor.does("right", 4, 9);
        poor.sell(1, 4, 901);
        poor.does("call", 9);
        poor.does("bid", 5, 100);
        poor.due(5, "hammer");
        poor.state("answer", 1);
        Run enough = new Run("and could bid as much: its purse has as much");
        enough.does("right", 4, 9);
        enough.sell(1, 4, 900);
        enough.does("call", 9);
        enough.does("bid", 5, 100);
        enough.due(NONE, "hammer");
        enough.due(4, "answer", 1);
        enough.due(0, "squad", 4, 0);
    }

    private static void hasRoomForIt() {
        for (int count = 5; count <= 6; count++) {
            Run r = new Run("and could bid as much: its squad has room for 6 lots");
            r.does("right", 4, 9);
            int[] lots = {1, 2, 3, 5, 6, 7};
            for (int i = 0; i < count; i++) {
                r.sell(lots[i], 4, 50);
            }
            r.does("call", 9);
            r.does("bid", 5, 100);
            r.due(count == 5 ? NONE : 5, "hammer");
        }
    }

    private static void hasRoomForAForeignOne() {
        for (int lot = 8; lot <= 9; lot++) {
            for (int count = 1; count <= 2; count++) {
                Run r = new Run("and could bid as much: its squad has room for 2 foreign lots");
                r.does("right", 4, lot);
                for (int i = 0; i < count; i++) {
                    r.sell(4 * i, 4, 50);
                }
                r.does("call", lot);
                r.does("bid", 5, 100);
                r.due(lot == 8 && count == 2 ? 5 : NONE, "hammer");
            }
        }
    }

    private static void ofThisLotAlone() {
        Run r = new Run("the right to match this lot: not another one");
        r.does("right", 4, 9);
        r.does("call", 10);
        r.does("bid", 5, 50);
        r.due(5, "hammer");
        r.due(4, "lot", 9, 2);
        r.does("call", 9);
        r.does("bid", 5, 50);
        r.due(NONE, "hammer");
    }

    // ---- promise 30

    private static void answer() {
        aRightMustBeAskedFor();
        itTakesTheLot();
        orNot();
        goneWhenAskedFor();
    }

    private static void aRightMustBeAskedFor() {
        for (int isTaken = 0; isTaken < 2; isTaken++) {
            Run r = new Run("30: if no right is asked for");
            r.state("answer", isTaken);
            r.does("right", 4, 9);
            r.state("answer", isTaken);
            r.does("call", 9);
            r.state("answer", isTaken);
            r.does("bid", 5, 50);
            r.state("answer", isTaken);
            r.due(NONE, "hammer");
            r.due(isTaken == 1 ? 4 : 5, "answer", isTaken);
            r.state("answer", isTaken);
        }
    }

    private static Run asked(String sentence) {
        Run r = new Run(sentence);
        r.does("right", 4, 8);
        r.does("call", 8);
        r.does("bid", 5, 100);
        r.due(NONE, "hammer");
        r.look("lot", 8, NONE, NONE, 4, 100);
        r.look("squad", 4, 1000, 0, 0);
        r.look("squad", 5, 1000, 0, 0);
        return r;
    }

    private static void itTakesTheLot() {
        Run r = asked("it is asked first: it takes the lot for that price");
        r.due(4, "answer", 1);
        r.look("lot", 8, 4, 100, NONE, NONE);
        r.look("squad", 4, 900, 1, 1);
        r.look("squad", 5, 1000, 0, 0);
    }

    private static void orNot() {
        Run r = asked("it is asked first: or not");
        r.due(5, "answer", 0);
        r.look("lot", 8, 5, 100, NONE, NONE);
        r.look("squad", 4, 1000, 0, 0);
        r.look("squad", 5, 900, 1, 1);
    }

    private static void goneWhenAskedFor() {
        for (int isTaken = 0; isTaken < 2; isTaken++) {
            Run r = asked("A right is gone when it was asked for");
            r.due(4, "lot", 8, 2);
            r.does("answer", isTaken);
            r.due(NONE, "lot", 8, 2);
        }
        Run kept = new Run("A right is gone when it was asked for: not ahead of that, without a bid");
        kept.does("right", 4, 8);
        kept.does("call", 8);
        kept.due(NONE, "hammer");
        kept.due(4, "lot", 8, 2);
        kept.does("call", 8);
        kept.does("bid", 5, 10);
        kept.due(NONE, "hammer");
        kept.due(4, "answer", 1);
        kept.due(NONE, "lot", 8, 2);
    }

    // ---- promise 31

    private static void lot() {
        lotsToTellOf();
        whatsOfALot();
        lotThrowsTheFirst();
        theHighestBid();
    }

    private static void lotsToTellOf() {
        Run r = new Run("31: `lot`: 0 to 23");
        for (int bad : new int[] {-1, 24, Integer.MIN_VALUE, Integer.MAX_VALUE}) {
            r.index("lot", bad, 0);
        }
        r.look("lot", 0, NONE, NONE, NONE, NONE);
        r.look("lot", 23, NONE, NONE, NONE, NONE);
    }

    private static void whatsOfALot() {
        Run r = new Run("31: `what`: 0 to 3");
        for (int bad : new int[] {-1, 4, Integer.MIN_VALUE, Integer.MAX_VALUE}) {
            r.argument("lot", 23, bad);
        }
        r.does("right", 0, 23);
        r.sell(23, 0, 10);
        r.look("lot", 23, 0, 10);
        r.due(NONE, "lot", 23, 3);
    }

    private static void lotThrowsTheFirst() {
        Run r = new Run("31: if several apply, the one that is named first is thrown");
        r.index("lot", 24, 4);
        r.index("lot", -1, -1);
        r.argument("lot", 23, 4);
    }

    private static void theHighestBid() {
        Run r = new Run("31: 3 the highest bid, if it is called, otherwise NONE");
        r.due(NONE, "lot", 9, 3);
        r.does("call", 9);
        r.due(NONE, "lot", 9, 3);
        r.does("bid", 0, 50);
        r.due(50, "lot", 9, 3);
        r.due(NONE, "lot", 10, 3);
        r.does("bid", 1, 55);
        r.due(55, "lot", 9, 3);
        r.due(1, "hammer");
        r.due(NONE, "lot", 9, 3);
        r.does("call", 10);
        r.due(NONE, "lot", 10, 3);
        r.due(NONE, "lot", 9, 3);
    }

    // ---- promise 32

    private static void squad() {
        clubsToTellOf();
        whatsOfASquad();
        squadThrowsTheFirst();
    }

    private static void clubsToTellOf() {
        Run r = new Run("32: `club`: 0 to 7");
        for (int bad : new int[] {-1, 8, Integer.MIN_VALUE, Integer.MAX_VALUE}) {
            r.index("squad", bad, 0);
        }
        r.look("squad", 0, 1000, 0, 0);
        r.look("squad", 7, 1000, 0, 0);
    }

    private static void whatsOfASquad() {
        Run r = new Run("32: `what`: 0 its purse, 1 how many lots its squad has, 2 how many of these are foreign");
        for (int bad : new int[] {-1, 3, Integer.MIN_VALUE, Integer.MAX_VALUE}) {
            r.argument("squad", 7, bad);
        }
        r.sell(20, 7, 10);
        r.sell(21, 7, 50);
        r.look("squad", 7, 940, 2, 1);
    }

    private static void squadThrowsTheFirst() {
        Run r = new Run("32: if several apply, the one that is named first is thrown");
        r.index("squad", 8, 3);
        r.index("squad", -1, -1);
        r.argument("squad", 7, 3);
    }
}
