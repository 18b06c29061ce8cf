/** The boundaries of promises 5 and 6, and of the terms of cards and substitutes: a test for each sentence. */
public final class CardBoundsTest {
    private static final int GREEN = 0;
    private static final int YELLOW = 1;
    private static final int RED = 2;
    private static final int ON = Raidhall.ON;
    private static final int BENCH = Raidhall.BENCH;
    private static final int OUT = Raidhall.OUT;
    private static final int SUSPENDED = Raidhall.SUSPENDED;
    private static final int GONE = Raidhall.GONE;
    private static final int NONE = Raidhall.NONE;

    public static void main(String[] args) {
        argumentsOfACard();
        whoCanGetACard();
        colours();
        whatTheyDo();
        threeAtATime();
        nobodyOnByACard();
        argumentsOfAChange();
        whoCanBeChanged();
        fiveChanges();
        Check.end();
    }

    // ---- promise 5

    private static void argumentsOfACard() {
        sidesOfACard();
        playersOfACard();
        coloursOfACard();
        cardThrowsTheFirst();
    }

    private static void sidesOfACard() {
        Run r = Run.match("5: `side`: 0 or 1");
        for (int bad : new int[] {-1, 2, Integer.MIN_VALUE, Integer.MAX_VALUE}) {
            r.index("card", bad, 0, GREEN);
        }
        r.due(GREEN, "card", 0, 0, GREEN);
        r.due(GREEN, "card", 1, 0, GREEN);
    }

    private static void playersOfACard() {
        Run r = Run.match("5: `player`: 0 to 9");
        r.does("change", 0, 1, 9);
        for (int bad : new int[] {-1, 10, Integer.MIN_VALUE, Integer.MAX_VALUE}) {
            r.index("card", 0, bad, GREEN);
        }
        r.due(GREEN, "card", 0, 0, GREEN);
        r.due(GREEN, "card", 0, 9, GREEN);
    }

    private static void coloursOfACard() {
        Run r = Run.match("5: `colour`: 0 to 2");
        for (int bad : new int[] {-1, 3, Integer.MIN_VALUE, Integer.MAX_VALUE}) {
            r.argument("card", 0, 0, bad);
        }
        r.due(GREEN, "card", 0, 0, GREEN);
        r.due(YELLOW, "card", 0, 1, YELLOW);
        r.due(RED, "card", 0, 2, RED);
    }

    private static void cardThrowsTheFirst() {
        Run none = new Run("5: if several apply, the one that is named first is thrown");
        none.index("card", 2, 0, 3);
        none.index("card", 0, 10, 3);
        none.argument("card", 0, 0, 3);
        none.state("card", 0, 0, RED);
        Run r = Run.match("5: if several apply, the one that is named first is thrown");
        r.does("raid", 0);
        r.index("card", -1, 7, -1);
        r.index("card", 0, -1, -1);
        r.argument("card", 0, 7, -1);
        r.state("card", 0, 7, GREEN);
    }

    private static void whoCanGetACard() {
        betweenRaidsAlone();
        onesWhoAreOn();
        behindTheTimeOfTheMatch();
    }

    private static void betweenRaidsAlone() {
        Run r = Run.match("Between raids a player can get a card; 5: a raid goes on");
        r.due(GREEN, "card", 0, 0, GREEN);
        r.does("raid", 0);
        r.state("card", 0, 1, GREEN);
        r.state("card", 1, 1, RED);
        r.does("step", Raidhall.BAULK, NONE, 10);
        r.state("card", 0, 1, GREEN);
        r.does("step", Raidhall.BACK, NONE, 11);
        r.due(GREEN, "card", 0, 1, GREEN);
        r.does("raid", 0);
        r.does("takeBack", 3);
        r.due(GREEN, "card", 0, 2, GREEN);
    }

    private static void onesWhoAreOn() {
        for (int colour = GREEN; colour <= RED; colour++) {
            Run r = Run.match("5: the player is not ON");
            r.fall(2);
            r.does("card", 0, 3, YELLOW);
            r.does("card", 0, 4, RED);
            for (int player : new int[] {7, 8, 9, 2, 3, 4}) {
                r.state("card", 0, player, colour);
            }
            r.due(colour, "card", 0, 6, colour);
        }
    }

    private static void behindTheTimeOfTheMatch() {
        Run r = Run.match("Between raids a player who is ON can get a card, or be changed: when no raid can begin, too", 300);
        r.empty(0, 300);
        r.state("raid", 0);
        r.due(RED, "card", 0, 0, RED);
        r.due(1, "change", 1, 0, 7);
        r.due(1, "enter");
    }

    // ---- what a card becomes

    private static void colours() {
        greenThenYellowThenRed();
        yellowThenRed();
        aGreenBehindAYellow();
        aGreenBecomesRed();
        ofEachPlayerAndSide();
        theSameAfterAChange();
        notOfOneTakenBack();
    }

    private static void greenThenYellowThenRed() {
        Run r = Run.match("who has had a card of this colour gets the next one instead, and so on, up to red");
        r.due(GREEN, "card", 0, 0, GREEN);
        r.due(ON, "player", 0, 0);
        r.due(YELLOW, "card", 0, 0, GREEN);
        r.due(SUSPENDED, "player", 0, 0);
        r.pass(3, 1200);
        r.due(ON, "player", 0, 0);
        r.due(RED, "card", 0, 0, GREEN);
        r.due(GONE, "player", 0, 0);
    }

    private static void yellowThenRed() {
        Run r = Run.match("who has had a card of this colour gets the next one instead: red for a second yellow");
        r.due(YELLOW, "card", 0, 0, YELLOW);
        r.pass(3, 1200);
        r.due(2, "points", 1);
        r.due(RED, "card", 0, 0, YELLOW);
        r.due(GONE, "player", 0, 0);
        r.due(3, "points", 1);
    }

    private static void aGreenBehindAYellow() {
        Run r = Run.match("a card of this colour: a green is one for him who had a yellow alone");
        r.due(YELLOW, "card", 0, 0, YELLOW);
        r.pass(3, 1200);
        r.due(GREEN, "card", 0, 0, GREEN);
        r.due(ON, "player", 0, 0);
        r.due(RED, "card", 0, 0, YELLOW);
    }

    private static void aGreenBecomesRed() {
        Run r = Run.match("gets the next one instead, and so on, up to red: past the yellow that he had");
        r.due(YELLOW, "card", 0, 0, YELLOW);
        r.pass(3, 1200);
        r.due(GREEN, "card", 0, 0, GREEN);
        r.due(RED, "card", 0, 0, GREEN);
        Run red = Run.match("up to red: a red is one for him who had a green");
        red.does("card", 0, 0, GREEN);
        red.due(RED, "card", 0, 0, RED);
    }

    private static void ofEachPlayerAndSide() {
        Run r = Run.match("A player who has had a card: not another one, nor of the other side");
        r.due(GREEN, "card", 0, 0, GREEN);
        r.due(GREEN, "card", 0, 1, GREEN);
        r.due(GREEN, "card", 1, 0, GREEN);
        r.due(YELLOW, "card", 1, 0, GREEN);
        r.due(YELLOW, "card", 0, 1, YELLOW);
    }

    private static void theSameAfterAChange() {
        Run r = Run.match("A player who has had a card of this colour in the match: on the BENCH since, or OUT");
        r.does("card", 0, 0, GREEN);
        r.does("change", 0, 0, 7);
        r.due(GREEN, "card", 0, 7, GREEN);
        r.does("change", 0, 7, 0);
        r.due(YELLOW, "card", 0, 0, GREEN);
    }

    private static void notOfOneTakenBack() {
        Run r = Run.match("all events from some event on are taken back, cards of these alike");
        r.due(GREEN, "card", 0, 0, GREEN);
        r.due(YELLOW, "card", 0, 0, GREEN);
        r.does("takeBack", 1);
        r.due(ON, "player", 0, 0);
        r.due(YELLOW, "card", 0, 0, GREEN);
        r.does("takeBack", 0);
        r.due(GREEN, "card", 0, 0, GREEN);
    }

    // ---- what a card does

    private static void whatTheyDo() {
        greenChangesNothing();
        yellowSuspends();
        redIsForTheRest();
    }

    private static void greenChangesNothing() {
        Run r = Run.match("Green changes nothing");
        r.does("card", 0, 0, GREEN);
        r.due(ON, "player", 0, 0);
        r.due(0, "points", 0);
        r.due(0, "points", 1);
        r.due(127, "matAfter", 0, 0);
        r.due(1, "match", 2);
    }

    private static void yellowSuspends() {
        Run r = Run.match("yellow: SUSPENDED, and no point");
        r.does("card", 0, 0, YELLOW);
        r.due(SUSPENDED, "player", 0, 0);
        r.due(0, "points", 0);
        r.due(0, "points", 1);
        r.due(126, "matAfter", 0, 0);
        r.due(NONE, "next", 0);
    }

    private static void redIsForTheRest() {
        Run r = Run.match("red: GONE, and the other side has 1 point; GONE, for the rest of it");
        r.does("card", 1, 0, RED);
        r.due(GONE, "player", 1, 0);
        r.due(1, "points", 0);
        r.due(0, "points", 1);
        r.pass(3, 1800);
        r.due(GONE, "player", 1, 0);
        r.due(126, "matAfter", 6, 1);
    }

    // ---- at most 3

    private static void threeAtATime() {
        theThird();
        redsAndYellowsTogether();
        greensCanBeGiven();
        greensThatBecomeYellow();
        sidesByThemselves();
        placesBecomeFree();
    }

    private static void theThird() {
        for (int colour = YELLOW; colour <= RED; colour++) {
            Run r = Run.match("At most 3 players of a side are SUSPENDED or GONE at a time");
            r.does("card", 0, 0, colour);
            r.does("card", 0, 1, colour);
            r.due(colour, "card", 0, 2, colour);
            r.state("card", 0, 3, YELLOW);
            r.state("card", 0, 3, RED);
            r.due(3, "match", 2);
        }
    }

    private static void redsAndYellowsTogether() {
        Run r = Run.match("At most 3 players of a side are SUSPENDED or GONE: both together");
        r.does("card", 0, 0, YELLOW);
        r.does("card", 0, 1, RED);
        r.due(YELLOW, "card", 0, 2, YELLOW);
        r.state("card", 0, 3, RED);
        r.state("card", 0, 3, YELLOW);
    }

    private static Run withThree(String sentence) {
        Run r = Run.match(sentence);
        r.does("card", 0, 0, YELLOW);
        r.does("card", 0, 1, YELLOW);
        r.does("card", 0, 2, RED);
        return r;
    }

    private static void greensCanBeGiven() {
        Run r = withThree("then cards but green that would make more cannot be given");
        r.state("card", 0, 3, YELLOW);
        r.due(GREEN, "card", 0, 3, GREEN);
        r.due(ON, "player", 0, 3);
    }

    private static void greensThatBecomeYellow() {
        Run r = withThree("then cards but green that would make more cannot be given: by what they become");
        r.due(GREEN, "card", 0, 3, GREEN);
        r.state("card", 0, 3, GREEN);
        r.due(GREEN, "card", 0, 4, GREEN);
        Run two = Run.match("then cards but green that would make more cannot be given: by what they become");
        two.does("card", 0, 0, YELLOW);
        two.does("card", 0, 1, YELLOW);
        two.does("card", 0, 3, GREEN);
        two.due(YELLOW, "card", 0, 3, GREEN);
    }

    private static void sidesByThemselves() {
        Run r = withThree("At most 3 players of a side: of each");
        r.due(YELLOW, "card", 1, 0, YELLOW);
        r.due(RED, "card", 1, 1, RED);
        r.due(RED, "card", 1, 2, RED);
        r.state("card", 1, 3, RED);
    }

    private static void placesBecomeFree() {
        Run r = withThree("At most 3 players of a side are SUSPENDED or GONE at a time");
        r.pass(3, 900);
        r.state("card", 0, 3, YELLOW);
        r.pass(3, 300);
        r.due(ON, "player", 0, 0);
        r.due(ON, "player", 0, 1);
        r.due(GONE, "player", 0, 2);
        r.due(YELLOW, "card", 0, 3, YELLOW);
        r.due(RED, "card", 0, 0, YELLOW);
        r.state("card", 0, 1, RED);
        r.due(GREEN, "card", 0, 1, GREEN);
    }

    // ---- nobody ON by a card

    /** Side 1 has one player ON, the number 6; 5 to 0 are OUT, in this order. */
    private static Run oneOn(String sentence) {
        Run r = Run.match(sentence);
        r.touch(3, 5, 4, 3, 2, 1, 0);
        r.due(64, "matAfter", 0, 1);
        return r;
    }

    private static void nobodyOnByACard() {
        yellowToTheLast();
        redToTheLast();
        greenToTheLast();
        toTheLastButOne();
        suspendedWhenNobodyIsOn();
    }

    private static void yellowToTheLast() {
        Run r = oneOn("If a side has nobody ON by a card, the other side has 2 points more: by a yellow");
        r.due(YELLOW, "card", 1, 6, YELLOW);
        r.due(8, "points", 0);
        r.due(63, "matAfter", 1, 1);
        r.due(NONE, "next", 1);
        r.due(SUSPENDED, "player", 1, 6);
        r.due(6, "raidPoints", 0, 3);
    }

    private static void redToTheLast() {
        Run r = oneOn("If a side has nobody ON by a card, the other side has 2 points more: by a red, 1 with them");
        r.due(RED, "card", 1, 6, RED);
        r.due(9, "points", 0);
        r.due(63, "matAfter", 1, 1);
        r.due(GONE, "player", 1, 6);
    }

    private static void greenToTheLast() {
        Run r = oneOn("If a side has nobody ON by a card: not by a green");
        r.due(GREEN, "card", 1, 6, GREEN);
        r.due(6, "points", 0);
        r.due(64, "matAfter", 1, 1);
        r.due(5, "next", 1);
        r.due(YELLOW, "card", 1, 6, GREEN);
        r.due(8, "points", 0);
        r.due(63, "matAfter", 2, 1);
    }

    private static void toTheLastButOne() {
        Run r = Run.match("If a side has nobody ON by a card: one is");
        r.touch(3, 0, 1, 2, 3, 4);
        r.due(YELLOW, "card", 1, 5, YELLOW);
        r.due(5, "points", 0);
        r.due(64, "matAfter", 1, 1);
        r.due(0, "next", 1);
        r.due(RED, "card", 1, 6, RED);
        r.due(8, "points", 0);
        r.due(31, "matAfter", 2, 1);
    }

    private static void suspendedWhenNobodyIsOn() {
        Run r = oneOn("all of its row come back: those SUSPENDED do not, nor the other row");
        r.touch(6, 0);
        r.due(ON, "player", 1, 5);
        r.due(YELLOW, "card", 1, 5, YELLOW);
        r.due(YELLOW, "card", 1, 6, YELLOW);
        r.due(8, "points", 0);
        r.due(31, "matAfter", 3, 1);
        r.due(SUSPENDED, "player", 1, 5);
        r.due(SUSPENDED, "player", 1, 6);
        r.look("out", 0, 0, NONE);
    }

    // ---- promise 6

    private static void argumentsOfAChange() {
        sidesOfAChange();
        playersOfAChange();
        changeThrowsTheFirst();
    }

    private static void sidesOfAChange() {
        Run r = Run.match("6: `side`: 0 or 1");
        for (int bad : new int[] {-1, 2, Integer.MIN_VALUE, Integer.MAX_VALUE}) {
            r.index("change", bad, 0, 7);
        }
        r.due(1, "change", 0, 0, 7);
        r.due(1, "change", 1, 0, 7);
    }

    private static void playersOfAChange() {
        Run r = Run.match("6: `leaves`: 0 to 9, `comes`: 0 to 9; if there is no such player, of either");
        for (int bad : new int[] {-1, 10, Integer.MIN_VALUE, Integer.MAX_VALUE}) {
            r.index("change", 0, bad, 7);
            r.index("change", 0, 0, bad);
        }
        r.due(1, "change", 0, 0, 9);
        r.due(2, "change", 0, 9, 0);
    }

    private static void changeThrowsTheFirst() {
        Run none = new Run("6: if several apply, the one that is named first is thrown");
        none.index("change", 2, 0, 7);
        none.index("change", 0, 10, 7);
        none.index("change", 0, 0, 10);
        none.state("change", 0, 0, 7);
        Run r = Run.match("6: if several apply, the one that is named first is thrown");
        r.does("raid", 0);
        r.index("change", 0, 7, 10);
        r.index("change", 0, -1, 0);
        r.state("change", 0, 7, 0);
    }

    private static void whoCanBeChanged() {
        changesBetweenRaids();
        theFirstMustBeOn();
        theSecondMustBeOnTheBench();
        theSamePlayerTwice();
        whoWasChanged();
    }

    private static void changesBetweenRaids() {
        Run r = Run.match("Between raids a player can be changed; 6: a raid goes on");
        r.due(1, "change", 0, 0, 7);
        r.does("raid", 7);
        r.state("change", 0, 1, 8);
        r.state("change", 1, 1, 8);
        r.does("step", Raidhall.BAULK, NONE, 10);
        r.state("change", 0, 1, 8);
        r.does("step", Raidhall.BACK, NONE, 11);
        r.due(2, "change", 0, 1, 8);
        r.due(1, "change", 1, 1, 8);
    }

    private static void theFirstMustBeOn() {
        Run r = Run.match("6: the first one is not ON");
        r.fall(2);
        r.does("card", 0, 3, YELLOW);
        r.does("card", 0, 4, RED);
        for (int player : new int[] {2, 3, 4, 8}) {
            r.state("change", 0, player, 7);
        }
        r.due(1, "change", 0, 6, 7);
    }

    private static void theSecondMustBeOnTheBench() {
        Run r = Run.match("6: the second one not on the BENCH");
        r.fall(2);
        r.does("card", 0, 3, YELLOW);
        r.does("card", 0, 4, RED);
        for (int player : new int[] {0, 2, 3, 4, 6}) {
            r.state("change", 0, 5, player);
        }
        r.due(1, "change", 0, 5, 7);
    }

    private static void theSamePlayerTwice() {
        Run r = Run.match("6: the first one is not ON, the second one not on the BENCH: one player is not both");
        for (int player = 0; player < 10; player++) {
            r.state("change", 0, player, player);
        }
        r.due(0, "match", 2);
    }

    private static void whoWasChanged() {
        Run r = Run.match("a player who is ON can be changed for one on the BENCH");
        r.due(1, "change", 0, 0, 7);
        r.due(BENCH, "player", 0, 0);
        r.due(ON, "player", 0, 7);
        r.due(127 - 1 + 128, "matAfter", 0, 0);
        r.due(127, "matAfter", 0, 1);
        r.state("change", 0, 0, 8);
        r.state("change", 0, 1, 7);
        r.due(2, "change", 0, 7, 0);
        r.due(127, "matAfter", 1, 0);
        Run out = Run.match("a player who is ON can be changed: whose row stays as it is");
        out.touch(0, 3, 2);
        out.does("change", 1, 5, 9);
        out.look("out", 1, 3, 2, NONE);
        out.due(OUT, "player", 1, 3);
    }

    private static void fiveChanges() {
        theFifthAndTheSixth();
        theOtherSideHasItsOwn();
        changesTakenBack();
    }

    private static void changeTimes(Run r, int side, int times) {
        for (int i = 0; i < times; i++) {
            r.due(i + 1, "change", side, i % 2 == 0 ? 0 : 7, i % 2 == 0 ? 7 : 0);
        }
    }

    private static void theFifthAndTheSixth() {
        Run r = Run.match("5 times a side at most; 6: Returns how often the side changed then");
        changeTimes(r, 0, 5);
        r.state("change", 0, 7, 0);
        r.state("change", 0, 1, 8);
        r.due(5, "match", 2);
    }

    private static void theOtherSideHasItsOwn() {
        Run r = Run.match("5 times a side at most: each side");
        changeTimes(r, 0, 5);
        changeTimes(r, 1, 5);
        r.state("change", 0, 7, 0);
        r.state("change", 1, 7, 0);
    }

    private static void changesTakenBack() {
        Run r = Run.match("all events from some event on are taken back: changes of these are not counted");
        changeTimes(r, 0, 5);
        r.due(2, "takeBack", 3);
        r.due(4, "change", 0, 7, 0);
        r.due(5, "change", 0, 0, 8);
        r.state("change", 0, 8, 0);
    }
}
