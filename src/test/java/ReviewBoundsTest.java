/** The boundaries of promises 7 to 9 and 20 to 23, and of the terms of reviews and clocks: a test for each sentence. */
public final class ReviewBoundsTest {
    private static final int TOUCH = Raidhall.TOUCH;
    private static final int BONUS = Raidhall.BONUS;
    private static final int BAULK = Raidhall.BAULK;
    private static final int BACK = Raidhall.BACK;
    private static final int FALL = Raidhall.FALL;
    private static final int LINE = Raidhall.LINE;
    private static final int TIME = Raidhall.TIME;
    private static final int ON = Raidhall.ON;
    private static final int OUT = Raidhall.OUT;
    private static final int NONE = Raidhall.NONE;
    private static final int[] EXTREMES = {Integer.MIN_VALUE, Integer.MAX_VALUE};

    public static void main(String[] args) {
        argumentsOfAReview();
        statesOfAReview();
        whatAStepCanBe();
        whatFollows();
        whatCannotStand();
        keptOrLost();
        argumentsOfWouldFall();
        whenWouldFallIsAsked();
        takeBack();
        hasReview();
        behindEvents();
        Check.end();
    }

    /** Event 0 is a raid of BAULK, TOUCH 2, BACK; 1 a green card; 2 a change; 3 a raid of FALL alone. */
    private static Run fourEvents(String sentence) {
        Run r = Run.match(sentence);
        r.raid(0, BACK, 50, BAULK, 12);
        r.does("card", 1, 3, 0);
        r.does("change", 1, 6, 9);
        r.fall(4);
        return r;
    }

    // ---- promise 7

    private static void argumentsOfAReview() {
        sidesOfAReview();
        eventsOfAReview();
        stepsOfAReview();
        kindsOfAReview();
        playersOfAReview();
        reviewThrowsTheFirst();
    }

    private static void sidesOfAReview() {
        Run r = fourEvents("7: `side`: 0 or 1");
        r.index("review", -1, 0, 0, BAULK, NONE);
        r.index("review", 2, 0, 0, BAULK, NONE);
        for (int bad : EXTREMES) {
            r.index("review", bad, 0, 0, BAULK, NONE);
        }
        r.due(0, "review", 0, 0, 0, BAULK, NONE);
        r.due(0, "review", 1, 0, 0, BAULK, NONE);
    }

    private static void eventsOfAReview() {
        Run r = fourEvents("7: if there is no such event that is a raid that has ended");
        for (int bad : new int[] {-1, 1, 2, 4, 59, 60, Integer.MIN_VALUE, Integer.MAX_VALUE}) {
            r.index("review", 0, bad, 0, FALL, NONE);
        }
        r.does("raid", 0);
        r.does("step", BONUS, NONE, 1);
        r.index("review", 0, 4, 0, BONUS, NONE);
        r.does("takeBack", 4);
        r.index("review", 0, 4, 0, BONUS, NONE);
        r.due(0, "review", 0, 3, 0, FALL, NONE);
        r.due(0, "review", 1, 0, 0, BAULK, NONE);
    }

    private static void stepsOfAReview() {
        Run r = fourEvents("7: if there is no such step of it; `step`: its place in the raid, from 0");
        for (int bad : new int[] {-1, 3, 10, Integer.MIN_VALUE, Integer.MAX_VALUE}) {
            r.index("review", 0, 0, bad, BACK, NONE);
        }
        r.index("review", 0, 3, 1, FALL, NONE);
        r.due(0, "review", 0, 0, 0, BAULK, NONE);
        r.due(0, "review", 1, 0, 2, BACK, NONE);
    }

    private static void kindsOfAReview() {
        Run r = fourEvents("7: `kind`: TOUCH to LINE");
        for (int bad : new int[] {-1, TIME, 7, Integer.MIN_VALUE, Integer.MAX_VALUE}) {
            r.argument("review", 0, 0, 2, bad, NONE);
        }
        r.due(2, "review", 1, 0, 2, LINE, NONE);
        r.due(0, "review", 1, 0, 0, TOUCH, 1);
        Run time = Run.match("7: `kind`: TOUCH to LINE, not TIME again for a TIME");
        time.raid(0, TIME, 300);
        time.argument("review", 0, 0, 0, TIME, NONE);
        time.due(0, "review", 0, 0, 0, LINE, NONE);
    }

    private static void playersOfAReview() {
        Run touch = fourEvents("7: `who`: of TOUCH the player");
        for (int bad : new int[] {-1, 10, Integer.MIN_VALUE, Integer.MAX_VALUE}) {
            touch.argument("review", 0, 0, 1, TOUCH, bad);
        }
        touch.state("review", 0, 0, 1, TOUCH, 9);
        touch.due(0, "review", 0, 0, 1, TOUCH, 0);
        for (int kind = BONUS; kind <= LINE; kind++) {
            Run other = fourEvents("7: `who`: otherwise NONE");
            int step = kind < BACK ? 0 : 2;
            for (int bad : new int[] {0, -2, 9, Integer.MIN_VALUE, Integer.MAX_VALUE}) {
                other.argument("review", 0, 0, step, kind, bad);
            }
            other.does("review", 0, 0, step, kind, NONE);
        }
    }

    private static void reviewThrowsTheFirst() {
        Run none = new Run("7: if several apply, the one that is named first is thrown");
        none.index("review", 0, 0, 0, 9, 9);
        Run r = fourEvents("7: if several apply, the one that is named first is thrown");
        r.due(0, "review", 0, 0, 0, BAULK, NONE);
        r.does("raid", 0);
        r.index("review", 2, 0, 0, TIME, NONE);
        r.index("review", 0, 1, 0, TIME, NONE);
        r.index("review", 0, 0, 3, TIME, 3);
        r.argument("review", 0, 0, 0, TIME, NONE);
        r.argument("review", 0, 0, 0, BONUS, 3);
        r.state("review", 0, 0, 0, BONUS, NONE);
    }

    private static void statesOfAReview() {
        betweenRaidsAlone();
        oneReviewEach();
        notBehindTheEntering();
    }

    private static void betweenRaidsAlone() {
        Run r = fourEvents("7: if a raid goes on");
        r.does("raid", 0);
        r.state("review", 0, 0, 0, BONUS, NONE);
        r.does("step", BAULK, NONE, 1);
        r.state("review", 1, 0, 0, BAULK, NONE);
        r.does("step", BACK, NONE, 2);
        r.due(1, "review", 0, 0, 0, BONUS, NONE);
        r.does("raid", 3);
        r.state("review", 0, 0, 0, BONUS, NONE);
        r.does("takeBack", 5);
        r.due(0, "review", 0, 0, 0, BONUS, NONE);
    }

    private static void oneReviewEach() {
        Run r = fourEvents("Each side has one review; 7: the review of the side is lost");
        r.due(0, "review", 0, 0, 0, BAULK, NONE);
        r.state("review", 0, 0, 0, BONUS, NONE);
        r.state("review", 0, 3, 0, FALL, NONE);
        r.due(0, "review", 1, 0, 0, BAULK, NONE);
        r.state("review", 1, 0, 0, BAULK, NONE);
        r.state("review", 0, 0, 0, BAULK, NONE);
    }

    private static void notBehindTheEntering() {
        Run r = Run.match("7: if there is no such event: the match is entered", 300);
        r.empty(0, 300);
        r.due(1, "review", 0, 0, 0, BONUS, NONE);
        r.does("enter");
        r.index("review", 0, 0, 0, BONUS, NONE);
    }

    // ---- what the step can be said to have been

    private static void whatAStepCanBe() {
        anEndStaysAnEnd();
        noEndBecomesOne();
        ofBackFallAndLine();
        aTimeBecomesAnotherEnd();
        anotherKind();
        anotherPlayer();
        theSameAsTold();
        itsTenthStays();
        onceInTheRaid();
    }

    private static void anEndStaysAnEnd() {
        Run r = fourEvents("one that ended the raid stays one that ends it");
        r.state("review", 0, 0, 2, TOUCH, 4);
        r.state("review", 0, 0, 2, BONUS, NONE);
        r.state("review", 0, 0, 2, BAULK, NONE);
        r.state("review", 0, 3, 0, BAULK, NONE);
        r.due(0, "wouldFall", 0, 2, TOUCH, 4);
        r.due(0, "wouldFall", 0, 2, BONUS, NONE);
        r.due(3, "wouldFall", 3, 0, BAULK, NONE);
        r.due(0, "review", 0, 0, 2, BACK, NONE);
    }

    private static void noEndBecomesOne() {
        Run r = fourEvents("one that did not stays one that does not");
        for (int kind = BACK; kind <= LINE; kind++) {
            r.state("review", 0, 0, 0, kind, NONE);
            r.state("review", 0, 0, 1, kind, NONE);
            r.due(0, "wouldFall", 0, 0, kind, NONE);
            r.due(0, "wouldFall", 0, 1, kind, NONE);
        }
        r.due(1, "review", 0, 0, 0, BONUS, NONE);
    }

    private static void ofBackFallAndLine() {
        int[] leads = {1, -1, -1};
        for (int told = BACK; told <= LINE; told++) {
            for (int said = BACK; said <= LINE; said++) {
                Run r = Run.match("one that ended the raid stays one that ends it, of BACK, FALL and LINE");
                r.raid(0, told, 50, 12);
                r.due(leads[said - BACK] - leads[told - BACK], "review", 0, 0, 1, said, NONE);
            }
        }
    }

    private static void aTimeBecomesAnotherEnd() {
        int[] gains = {2, 0, 0};
        for (int said = BACK; said <= LINE; said++) {
            Run r = Run.match("one that ended the raid stays one that ends it: TIME becomes BACK, FALL or LINE");
            r.raid(0, TIME, 300, 12);
            r.due(NONE, "wouldFall", 0, 1, said, NONE);
            r.due(gains[said - BACK], "review", 0, 0, 1, said, NONE);
            r.due(300, "match", 0);
        }
    }

    private static void anotherKind() {
        String sentence = "says what it was: another kind";
        Run bonus = fourEvents(sentence);
        bonus.due(1, "review", 0, 0, 0, BONUS, NONE);
        bonus.due(-1, "review", 0, 0, 0, BAULK, NONE);
        Run touch = fourEvents(sentence);
        touch.due(1, "review", 0, 0, 0, TOUCH, 5);
        touch.look("out", 1, 5, 2, 4, NONE);
        Run none = fourEvents(sentence);
        none.due(0, "review", 0, 0, 1, BONUS, NONE);
        none.due(ON, "player", 1, 2);
    }

    private static void anotherPlayer() {
        Run r = Run.match("says what it was: another player");
        r.raid(0, BACK, 50, 12);
        r.due(0, "review", 0, 0, 0, TOUCH, 6);
        r.due(ON, "player", 1, 2);
        r.due(OUT, "player", 1, 6);
        r.look("out", 1, 6, NONE);
    }

    private static void theSameAsTold() {
        for (int step = 0; step < 3; step++) {
            Run r = Run.match("or the same as told, by which nothing changes");
            r.raid(0, BACK, 50, BONUS, 12);
            int[] kinds = {BONUS, TOUCH, BACK};
            r.due(NONE, "wouldFall", 0, step, kinds[step], step == 1 ? 2 : NONE);
            r.due(0, "review", 0, 0, step, kinds[step], step == 1 ? 2 : NONE);
            r.due(2, "points", 0);
            r.look("out", 1, 2, NONE);
            r.due(0, "hasReview", 0);
        }
    }

    private static void itsTenthStays() {
        Run r = Run.match("its tenth stays");
        r.raid(0, BACK, 77, BAULK);
        r.due(-1, "review", 0, 0, 1, LINE, NONE);
        r.due(77, "match", 0);
        r.due(0, "review", 1, 0, 0, BAULK, NONE);
        r.due(77, "match", 0);
        // A suspension ends as it would have.
        Run time = Run.match("its tenth stays");
        time.raid(0, BACK, 299, BAULK);
        time.does("card", 0, 5, 1);
        time.pass(3, 1199);
        time.due(-1, "review", 0, 0, 1, LINE, NONE);
        time.due(1498, "match", 0);
        time.due(Raidhall.SUSPENDED, "player", 0, 5);
    }

    private static void onceInTheRaid() {
        Run r = Run.match("7: it cannot be made; a raid has BONUS once, BAULK once, a touch of a player once");
        r.raid(0, BACK, 50, BAULK, BONUS, 12, 13);
        r.state("review", 0, 0, 0, BONUS, NONE);
        r.state("review", 0, 0, 1, BAULK, NONE);
        r.state("review", 0, 0, 0, TOUCH, 3);
        r.state("review", 0, 0, 2, TOUCH, 3);
        r.state("review", 0, 0, 3, TOUCH, 2);
        r.state("review", 0, 0, 3, BONUS, NONE);
        r.due(0, "wouldFall", 0, 0, BONUS, NONE);
        r.due(0, "wouldFall", 0, 3, TOUCH, 2);
        r.due(0, "review", 0, 0, 3, TOUCH, 4);
    }

    // ---- all events from that one on follow anew

    private static void whatFollows() {
        matsFollow();
        rowsFollow();
        doOrDieFollows();
        noDoOrDieFollows();
        allOutFollows();
        noAllOutFollows();
        standingFollows();
        cardsFollow();
        eventsAheadDoNot();
    }

    private static void matsFollow() {
        Run r = Run.match("All events from that one on follow anew: who is ON behind each");
        r.raid(0, BACK, 50, 12);
        r.does("card", 0, 5, 0);
        r.empty(0, 20);
        r.due(127 - 4, "matAfter", 2, 1);
        r.due(0, "review", 0, 0, 0, TOUCH, 6);
        for (int event = 0; event < 3; event++) {
            r.due(63, "matAfter", event, 1);
            r.due(63, "matAnew", event, 1);
            r.due(1, "pointsAfter", event, 0);
        }
    }

    private static void rowsFollow() {
        Run r = Run.match("All events from that one on follow anew: who comes back in which order");
        r.raid(0, BACK, 50, 12, 13);
        r.empty(0, 20);
        r.fall(1);
        r.look("out", 1, 3, NONE);
        r.due(0, "review", 0, 0, 0, TOUCH, 5);
        r.look("out", 1, 3, NONE);
        r.due(ON, "player", 1, 5);
        r.due(0, "review", 1, 0, 1, TOUCH, 6);
        r.look("out", 1, 6, NONE);
    }

    private static void doOrDieFollows() {
        Run r = Run.match("All events from that one on follow anew: an empty raid becomes do-or-die");
        r.raid(0, BACK, 20, BONUS);
        r.fall(0);
        r.empty(0, 20);
        r.fall(1);
        r.empty(1, 20);
        r.due(ON, "player", 0, 1);
        r.fall(2);
        r.due(1, "match", 4);
        r.due(-2, "review", 0, 0, 0, BAULK, NONE);
        r.due(0, "match", 4);
        r.due(125, "matAfter", 4, 0);
        r.due(127, "matAfter", 5, 0);
        r.due(3, "points", 0);
        r.due(1, "points", 1);
    }

    private static void noDoOrDieFollows() {
        Run r = Run.match("All events from that one on follow anew: a do-or-die raid becomes an empty one");
        r.empty(0, 20);
        r.fall(0);
        r.empty(0, 20);
        r.fall(1);
        r.empty(1, 20);
        r.due(1, "points", 1);
        r.due(2, "review", 0, 0, 0, BONUS, NONE);
        r.due(0, "points", 1);
        r.due(ON, "player", 0, 1);
    }

    private static void allOutFollows() {
        Run r = Run.match("All events from that one on follow anew: an all-out that was none");
        r.raid(0, BACK, 20, BAULK, 11, 12, 13, 14, 15, 16);
        r.due(6, "points", 0);
        r.due(3, "review", 0, 0, 0, TOUCH, 0);
        r.due(9, "points", 0);
        r.due(127, "matAfter", 0, 1);
        r.due(1, "hasReview", 0);
    }

    private static void noAllOutFollows() {
        Run r = Run.match("All events from that one on follow anew: an all-out that is none any more");
        r.raid(0, BACK, 20, 10, 11, 12, 13, 14, 15, 16);
        r.due(-3, "review", 0, 0, 3, BAULK, NONE);
        r.due(6, "points", 0);
        r.due(8, "matAfter", 0, 1);
        r.look("out", 1, 0, 1, 2, 4, 5, 6, NONE);
    }

    private static void standingFollows() {
        Run r = Run.match("All events from that one on follow anew: how many stood");
        r.does("card", 1, 6, 2);
        r.raid(0, BACK, 20, BAULK);
        r.empty(0, 20);
        r.raidDue(10, 0, BACK, 20, BONUS);
        r.due(0, "review", 0, 1, 0, TOUCH, 5);
        r.due(2, "points", 0);
        r.due(1, "pointsAfter", 0, 0);
        r.due(2, "pointsAfter", 1, 0);
        r.due(2, "pointsAfter", 3, 0);
    }

    private static void cardsFollow() {
        Run r = Run.match("All events from that one on follow anew, cards by the colour that was told");
        r.raid(0, BACK, 20, BAULK);
        r.due(0, "card", 1, 3, 0);
        r.due(1, "card", 1, 3, 0);
        r.due(1, "review", 0, 0, 0, BONUS, NONE);
        r.due(Raidhall.SUSPENDED, "player", 1, 3);
        r.pass(4, 1200);
        r.due(2, "card", 1, 3, 0);
        r.due(-1, "review", 0, 0, 0, BAULK, NONE);
        r.due(Raidhall.GONE, "player", 1, 3);
    }

    private static void eventsAheadDoNot() {
        Run r = Run.match("All events from that one on follow anew: not those ahead");
        r.raid(0, BACK, 20, 12);
        r.does("card", 0, 3, 2);
        r.empty(0, 20);
        r.due(1, "review", 1, 2, 0, BONUS, NONE);
        r.due(1, "pointsAfter", 0, 0);
        r.due(0, "pointsAfter", 0, 1);
        r.due(1, "pointsAfter", 1, 1);
        r.due(2, "pointsAfter", 2, 1);
        r.due(123, "matAfter", 0, 1);
    }

    // ---- if one of them cannot stand then, the review cannot be made

    private static void whatCannotStand() {
        raidersWhoAreOut();
        touchesOfThoseOut();
        cardsOfThoseOut();
        changesOfThoseOut();
        touchesThatCannotBe();
        theFirstOfThem();
        nothingCanChange();
    }

    private static void raidersWhoAreOut() {
        Run r = Run.match("If one of them cannot stand then, the review cannot be made: its raider is OUT");
        r.raid(0, BACK, 20, 12);
        r.empty(5, 20);
        r.due(1, "wouldFall", 0, 0, TOUCH, 5);
        r.state("review", 0, 0, 0, TOUCH, 5);
        r.due(NONE, "wouldFall", 0, 0, TOUCH, 4);
        r.due(0, "review", 0, 0, 0, TOUCH, 4);
        Run own = Run.match("If one of them cannot stand then: the raider of the step itself");
        own.empty(3, 20);
        own.empty(3, 20);
        own.empty(3, 20);
        own.due(2, "wouldFall", 0, 1, FALL, NONE);
        own.state("review", 1, 0, 1, FALL, NONE);
    }

    private static void touchesOfThoseOut() {
        Run r = Run.match("If one of them cannot stand then: a touch of one who is OUT");
        r.raid(0, BACK, 20, 12);
        r.empty(0, 20);
        r.raid(0, BACK, 20, 14);
        r.due(2, "wouldFall", 0, 0, TOUCH, 4);
        r.state("review", 0, 0, 0, TOUCH, 4);
        r.due(NONE, "wouldFall", 0, 0, TOUCH, 5);
        Run back = Run.match("If one of them cannot stand then: a touch of one who does not come back");
        back.raid(0, BACK, 20, 12);
        back.raid(0, BACK, 20, 16);
        back.raid(0, BACK, 20, 12);
        back.due(2, "wouldFall", 1, 0, BAULK, NONE);
        back.state("review", 0, 1, 0, BAULK, NONE);
        back.due(NONE, "wouldFall", 1, 0, TOUCH, 5);
    }

    private static void cardsOfThoseOut() {
        for (int colour = 0; colour < 3; colour++) {
            Run r = Run.match("If one of them cannot stand then: a card of one who is OUT");
            r.raid(0, BACK, 20, 12);
            r.does("card", 1, 4, colour);
            r.due(1, "wouldFall", 0, 0, TOUCH, 4);
            r.state("review", 0, 0, 0, TOUCH, 4);
            r.due(0, "review", 0, 0, 0, TOUCH, 5);
        }
    }

    private static void changesOfThoseOut() {
        Run r = Run.match("If one of them cannot stand then: a change of one who is OUT");
        r.raid(0, BACK, 20, 12);
        r.does("change", 1, 4, 8);
        r.due(1, "wouldFall", 0, 0, TOUCH, 4);
        r.state("review", 0, 0, 0, TOUCH, 4);
        r.due(0, "review", 0, 0, 0, TOUCH, 5);
    }

    private static void touchesThatCannotBe() {
        Run r = Run.match("7: it cannot be made: a touch of one who was not ON");
        r.does("card", 1, 6, 2);
        r.does("card", 1, 5, 1);
        r.raid(0, BACK, 20, 12);
        for (int player : new int[] {5, 6, 7, 8, 9}) {
            r.due(2, "wouldFall", 2, 0, TOUCH, player);
            r.state("review", 0, 2, 0, TOUCH, player);
        }
        r.due(0, "review", 0, 2, 0, TOUCH, 4);
    }

    private static void theFirstOfThem() {
        Run r = Run.match("8: which event would not stand any more: the first of several");
        r.raid(0, BACK, 20, 12);
        r.does("card", 1, 3, 0);
        r.raid(4, BACK, 20, BAULK);
        r.does("change", 1, 5, 7);
        r.raid(0, BACK, 20, 16);
        int[] falls = {NONE, NONE, NONE, 1, 2, 3, 4};
        for (int player = 0; player < 7; player++) {
            r.due(falls[player], "wouldFall", 0, 0, TOUCH, player);
        }
        r.does("card", 1, 4, 0);
        r.does("card", 1, 3, 0);
        r.due(1, "wouldFall", 0, 0, TOUCH, 3);
        r.due(2, "wouldFall", 0, 0, TOUCH, 4);
    }

    private static void nothingCanChange() {
        Run r = Run.match("If one of them cannot stand then, the review cannot be made: and is not lost by that");
        r.raid(0, BACK, 20, 12);
        r.empty(5, 20);
        r.state("review", 0, 0, 0, TOUCH, 5);
        r.state("review", 1, 0, 0, TOUCH, 5);
        r.due(1, "hasReview", 0);
        r.due(1, "hasReview", 1);
        r.look("out", 1, 2, NONE);
        r.due(1, "review", 1, 0, 0, BAULK, NONE);
    }

    // ---- kept, if the points become more

    private static void keptOrLost() {
        keptForOne();
        lostForNone();
        lostForLess();
        byTheOtherSidesPoints();
        itHoldsEitherWay();
        keptAndMadeAgain();
    }

    private static void keptForOne() {
        for (int side = 0; side < 2; side++) {
            Run r = Run.match("The review is kept, if the points become more by it: by 1");
            r.raid(0, BACK, 20, side == 0 ? BAULK : BONUS, 12);
            r.due(1, "review", side, 0, 0, side == 0 ? BONUS : BAULK, NONE);
            r.due(1, "hasReview", side);
            r.due(1, "hasReview", 1 - side);
        }
    }

    private static void lostForNone() {
        for (int side = 0; side < 2; side++) {
            Run r = Run.match("The review is kept, if the points become more by it, otherwise it is lost: by 0");
            r.raid(0, BACK, 20, 12);
            r.due(0, "review", side, 0, 0, TOUCH, 3);
            r.due(0, "hasReview", side);
            r.due(1, "hasReview", 1 - side);
        }
    }

    private static void lostForLess() {
        Run first = Run.match("otherwise it is lost: by -1");
        first.raid(0, BACK, 20, BONUS, 12);
        first.due(-1, "review", 0, 0, 0, BAULK, NONE);
        first.due(0, "hasReview", 0);
        first.due(1, "hasReview", 1);
        Run second = Run.match("otherwise it is lost: by -1");
        second.raid(0, BACK, 20, BAULK, 12);
        second.due(-1, "review", 1, 0, 0, BONUS, NONE);
        second.due(0, "hasReview", 1);
        second.due(1, "hasReview", 0);
    }

    private static void byTheOtherSidesPoints() {
        Run less = Run.match("the points of the side less those of the other one: those of the other become less");
        less.raid(0, LINE, 20, BAULK);
        less.due(1, "review", 0, 0, 1, BACK, NONE);
        less.due(0, "points", 1);
        less.due(1, "hasReview", 0);
        Run even = Run.match("the points of the side less those of the other one: as many more for both");
        even.empty(0, 20);
        even.touch(6, 1, 2);
        even.empty(0, 20);
        even.raidDue(0, 6, BACK, 20, BONUS);
        // The touch lets one come back, so that six stand against the bonus behind.
        even.due(0, "review", 0, 2, 0, TOUCH, 5);
        even.due(1, "points", 0);
        even.due(3, "points", 1);
        even.due(0, "hasReview", 0);
    }

    private static void itHoldsEitherWay() {
        Run r = Run.match("what it changed holds either way");
        r.raid(0, BACK, 20, BONUS, 12);
        r.due(-1, "review", 0, 0, 0, BAULK, NONE);
        r.due(1, "points", 0);
        r.due(1, "raidPoints", 0, 0);
        r.due(1, "pointsAfter", 0, 0);
        r.due(0, "review", 1, 0, 1, TOUCH, 5);
        r.due(0, "hasReview", 1);
        r.look("out", 1, 5, NONE);
    }

    private static void keptAndMadeAgain() {
        Run r = Run.match("The review is kept: it can be made again until it is lost");
        r.raid(0, BACK, 20, BAULK, 12);
        r.due(1, "review", 0, 0, 0, TOUCH, 3);
        r.raid(0, LINE, 20);
        r.raid(0, LINE, 20, BAULK);
        r.due(1, "review", 0, 2, 1, BACK, NONE);
        r.due(1, "review", 0, 2, 0, TOUCH, 4);
        r.due(1, "hasReview", 0);
        r.due(0, "review", 0, 2, 0, TOUCH, 4);
        r.due(0, "hasReview", 0);
        r.state("review", 0, 2, 0, TOUCH, 4);
    }

    // ---- promise 8

    private static void argumentsOfWouldFall() {
        eventsOfWouldFall();
        stepsOfWouldFall();
        kindsOfWouldFall();
        playersOfWouldFall();
        wouldFallThrowsTheFirst();
    }

    private static void eventsOfWouldFall() {
        Run r = fourEvents("8: if there is no such event that is a raid that has ended");
        for (int bad : new int[] {-1, 1, 2, 4, 59, 60, Integer.MIN_VALUE, Integer.MAX_VALUE}) {
            r.index("wouldFall", bad, 0, FALL, NONE);
        }
        r.due(NONE, "wouldFall", 0, 0, BAULK, NONE);
        r.due(NONE, "wouldFall", 3, 0, FALL, NONE);
    }

    private static void stepsOfWouldFall() {
        Run r = fourEvents("8: if there is no such step of it");
        for (int bad : new int[] {-1, 3, 10, Integer.MIN_VALUE, Integer.MAX_VALUE}) {
            r.index("wouldFall", 0, bad, BACK, NONE);
        }
        r.index("wouldFall", 3, 1, FALL, NONE);
        r.due(NONE, "wouldFall", 0, 2, BACK, NONE);
    }

    private static void kindsOfWouldFall() {
        Run r = fourEvents("8: `kind`: TOUCH to LINE");
        for (int bad : new int[] {-1, TIME, 7, Integer.MIN_VALUE, Integer.MAX_VALUE}) {
            r.argument("wouldFall", 0, 2, bad, NONE);
        }
        r.due(NONE, "wouldFall", 0, 0, TOUCH, 1);
        r.due(NONE, "wouldFall", 0, 2, LINE, NONE);
    }

    private static void playersOfWouldFall() {
        Run r = fourEvents("8: `who`: of TOUCH the player, otherwise NONE");
        for (int bad : new int[] {-1, 10, Integer.MIN_VALUE, Integer.MAX_VALUE}) {
            r.argument("wouldFall", 0, 1, TOUCH, bad);
        }
        r.due(NONE, "wouldFall", 0, 1, TOUCH, 0);
        r.due(0, "wouldFall", 0, 1, TOUCH, 9);
        for (int kind = BONUS; kind <= LINE; kind++) {
            for (int bad : new int[] {0, -2, 9}) {
                r.argument("wouldFall", 0, 2, kind, bad);
            }
        }
    }

    private static void wouldFallThrowsTheFirst() {
        Run r = fourEvents("8: if several apply, the one that is named first is thrown");
        r.index("wouldFall", 4, 0, TIME, NONE);
        r.index("wouldFall", 0, 3, TIME, 3);
        r.index("wouldFall", 1, 0, TOUCH, 10);
        r.argument("wouldFall", 0, 0, TOUCH, 10);
    }

    private static void whenWouldFallIsAsked() {
        whoeverMakesIt();
        raidsThatGoOn();
        itChangesNothing();
    }

    private static void whoeverMakesIt() {
        Run r = fourEvents("8: by a review, whoever makes it: when both are lost, too");
        r.does("review", 0, 0, 0, BAULK, NONE);
        r.does("review", 1, 0, 0, BAULK, NONE);
        r.due(NONE, "wouldFall", 0, 0, BONUS, NONE);
        r.due(1, "wouldFall", 0, 0, TOUCH, 3);
    }

    private static void raidsThatGoOn() {
        Run r = Run.match("8: a raid that goes on is not looked at");
        r.raid(0, BACK, 20, 12);
        r.does("raid", 5);
        r.due(NONE, "wouldFall", 0, 0, TOUCH, 5);
        r.does("step", BONUS, NONE, 1);
        r.index("wouldFall", 1, 0, BONUS, NONE);
        r.due(NONE, "wouldFall", 0, 0, TOUCH, 5);
        r.does("step", BACK, NONE, 2);
        r.due(1, "wouldFall", 0, 0, TOUCH, 5);
    }

    private static void itChangesNothing() {
        Run r = Run.match("8: Tells which event would not stand any more, and changes nothing");
        r.raid(0, BACK, 20, 12);
        r.does("raid", 5);
        r.does("step", TOUCH, 3, 7);
        r.due(NONE, "wouldFall", 0, 1, LINE, NONE);
        r.due(1, "match", 3);
        r.due(1, "points", 0);
        r.look("out", 1, 2, NONE);
        r.state("step", TOUCH, 3, 8);
        r.due(10, "step", BACK, NONE, 8);
    }

    // ---- promise 9

    private static void takeBack() {
        eventsToTakeBack();
        nothingToTakeBack();
        howManyAreTaken();
        aRaidThatGoesOn();
        reviewsOfTheseAlike();
        reviewsOfThoseAhead();
        lostStaysLost();
        allIsAsItWas();
    }

    private static void eventsToTakeBack() {
        Run r = fourEvents("9: if there is no such event");
        for (int bad : new int[] {-1, 4, 60, Integer.MIN_VALUE, Integer.MAX_VALUE}) {
            r.index("takeBack", bad);
        }
        r.due(1, "takeBack", 3);
        r.index("takeBack", 3);
        r.due(3, "takeBack", 0);
        r.index("takeBack", 0);
    }

    private static void nothingToTakeBack() {
        Run r = new Run("9: if there is no such event: no match, or none yet");
        r.index("takeBack", 0);
        r.does("begin", 0, 1, 300);
        r.index("takeBack", 0);
        r.empty(0, 300);
        r.due(1, "takeBack", 0);
        r.empty(0, 300);
        r.does("enter");
        r.index("takeBack", 0);
    }

    private static void howManyAreTaken() {
        for (int from = 0; from < 4; from++) {
            Run r = fourEvents("9: Returns how many");
            r.due(4 - from, "takeBack", from);
            r.due(from, "match", 2);
        }
        Run many = Run.match("9: Returns how many: 60 at most");
        many.fill(3, 60);
        many.index("takeBack", 60);
        many.due(60, "takeBack", 0);
        many.due(0, "match", 2);
    }

    private static void aRaidThatGoesOn() {
        Run alone = fourEvents("with a raid that goes on, which is the last event");
        alone.does("raid", 0);
        alone.does("step", TOUCH, 3, 1);
        alone.index("takeBack", 5);
        alone.due(1, "takeBack", 4);
        alone.due(0, "match", 3);
        alone.due(4, "match", 2);
        alone.due(4, "raid", 5);
        Run more = fourEvents("with a raid that goes on, which is the last event");
        more.does("raid", 0);
        more.due(3, "takeBack", 2);
        more.due(0, "match", 3);
        more.state("step", BACK, NONE, 9);
    }

    private static void reviewsOfTheseAlike() {
        Run r = Run.match("reviews of these alike");
        r.empty(0, 20);
        r.raid(1, BACK, 20, BAULK);
        r.due(1, "review", 1, 1, 0, BONUS, NONE);
        r.due(1, "points", 1);
        r.due(1, "takeBack", 1);
        r.due(0, "points", 1);
        r.raidDue(0, 1, BACK, 20, BAULK);
        r.due(0, "points", 1);
        r.due(1, "hasReview", 1);
    }

    private static void reviewsOfThoseAhead() {
        Run r = Run.match("reviews of these alike: not of those ahead");
        r.raid(0, BACK, 20, BAULK);
        r.empty(1, 20);
        r.due(1, "review", 0, 0, 0, BONUS, NONE);
        r.due(1, "takeBack", 1);
        r.due(1, "points", 0);
        r.due(1, "pointsAfter", 0, 0);
        r.due(1, "hasReview", 0);
    }

    private static void lostStaysLost() {
        Run r = Run.match("a review that was lost stays so");
        r.empty(0, 20);
        r.due(0, "review", 0, 0, 0, BAULK, NONE);
        r.due(1, "takeBack", 0);
        r.due(0, "hasReview", 0);
        r.due(1, "hasReview", 1);
        r.empty(0, 20);
        r.state("review", 0, 0, 0, BONUS, NONE);
        r.due(-1, "review", 1, 0, 0, BONUS, NONE);
    }

    private static void allIsAsItWas() {
        Run r = Run.match("all events from some event on are taken back: time, points, players, turns, changes");
        r.raid(0, BACK, 100, 12);
        r.raid(3, BACK, 300, BONUS, 14, 15);
        r.does("change", 0, 6, 9);
        r.does("card", 1, 6, 2);
        r.raid(9, LINE, 200);
        r.due(4, "takeBack", 1);
        r.due(100, "match", 0);
        r.due(1, "match", 1);
        r.due(1, "points", 0);
        r.due(0, "points", 1);
        r.due(127, "matAfter", 0, 0);
        r.due(123, "matAfter", 0, 1);
        r.look("player", 0, 0, 0, 0, 0, 0, 0, 0, 1, 1, 1);
        r.look("player", 1, 0, 0, 2, 0, 0, 0, 0, 1, 1, 1);
        r.due(0, "raidPoints", 1, 3);
        r.index("matAfter", 1, 0);
        Run over = Run.match("all events from some event on are taken back: the match is not over any more", 300);
        over.empty(0, 300);
        over.due(1, "match", 5);
        over.due(1, "takeBack", 0);
        over.due(0, "match", 5);
        over.state("enter");
        over.due(0, "raid", 0);
    }

    // ---- promise 20

    private static void hasReview() {
        Run none = new Run("20: if there is no such side; if there is no match");
        none.index("hasReview", 2);
        none.index("hasReview", -1);
        none.state("hasReview", 0);
        none.state("hasReview", 1);
        Run r = Run.match("20: `side`: 0 or 1");
        for (int bad : new int[] {-1, 2, Integer.MIN_VALUE, Integer.MAX_VALUE}) {
            r.index("hasReview", bad);
        }
        r.due(1, "hasReview", 0);
        r.due(1, "hasReview", 1);
        r.empty(0, 20);
        r.does("review", 1, 0, 0, BAULK, NONE);
        r.due(1, "hasReview", 0);
        r.due(0, "hasReview", 1);
        r.does("raid", 0);
        r.due(1, "hasReview", 0);
        r.due(0, "hasReview", 1);
    }

    // ---- promises 21 to 23

    private static void behindEvents() {
        for (String asks : new String[] {"matAfter", "matAnew", "pointsAfter"}) {
            noSuchEvent(asks);
            notEnded(asks);
            noSuchSide(asks);
            takenBack(asks);
            noMatch(asks);
        }
        allKindsOfEvents();
        theLastOfSixty();
    }

    private static void noSuchEvent(String asks) {
        Run r = fourEvents("21 to 23: `event`: its number");
        for (int bad : new int[] {-1, 4, 60, Integer.MIN_VALUE, Integer.MAX_VALUE}) {
            r.index(asks, bad, 0);
        }
        r.does(asks, 0, 0);
        r.does(asks, 3, 1);
    }

    private static void notEnded(String asks) {
        Run r = fourEvents("21 to 23: if there is no such event that has ended");
        r.does("raid", 0);
        r.index(asks, 4, 0);
        r.does(asks, 3, 0);
        r.does("step", BONUS, NONE, 299);
        r.index(asks, 4, 0);
        r.does("step", BACK, NONE, 300);
        r.does(asks, 4, 0);
        r.index(asks, 5, 0);
    }

    private static void noSuchSide(String asks) {
        Run r = fourEvents("21 to 23: `side`: 0 or 1");
        for (int bad : new int[] {-1, 2, Integer.MIN_VALUE, Integer.MAX_VALUE}) {
            r.index(asks, 0, bad);
        }
        r.does(asks, 0, 0);
        r.does(asks, 0, 1);
    }

    private static void takenBack(String asks) {
        Run r = fourEvents("21 to 23: if there is no such event: it was taken back");
        r.does(asks, 3, 0);
        r.does("takeBack", 3);
        r.index(asks, 3, 0);
        r.does(asks, 2, 0);
    }

    private static void noMatch(String asks) {
        Run r = new Run("21 to 23: if there is no such event: there is no match");
        r.index(asks, 0, 0);
        r.does("begin", 0, 1, 300);
        r.index(asks, 0, 0);
        r.empty(0, 300);
        r.does(asks, 0, 0);
        r.does("enter");
        r.index(asks, 0, 0);
    }

    private static void allKindsOfEvents() {
        Run r = Run.match("21 to 23: who was ON, and the points, behind raids, cards and substitutions");
        r.raid(0, BACK, 50, 12, 15);
        r.does("card", 1, 0, 2);
        r.does("change", 0, 6, 9);
        r.fall(1);
        int[][] mats = {{127, 91}, {127, 90}, {575, 90}, {575, 88}};
        int[] points = {2, 3, 3, 4};
        for (int event = 0; event < 4; event++) {
            for (int side = 0; side < 2; side++) {
                r.due(mats[event][side], "matAfter", event, side);
                r.due(mats[event][side], "matAnew", event, side);
            }
            r.due(points[event], "pointsAfter", event, 0);
            r.due(0, "pointsAfter", event, 1);
        }
    }

    private static void theLastOfSixty() {
        Run r = Run.match("21 to 23: behind the last of 60 events");
        r.fill(3, 60);
        r.due(127, "matAfter", 59, 0);
        r.due(127, "matAnew", 59, 1);
        r.due(30, "pointsAfter", 59, 0);
        r.due(29, "pointsAfter", 58, 1);
        r.due(1, "pointsAfter", 0, 0);
        r.index("matAfter", 60, 0);
        r.index("matAnew", 60, 0);
        r.index("pointsAfter", 60, 0);
    }
}
