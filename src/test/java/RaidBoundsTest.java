/** The boundaries of promise 4, and of the terms of a raid: a test for each sentence. */
public final class RaidBoundsTest {
    private static final int TOUCH = Raidhall.TOUCH;
    private static final int BONUS = Raidhall.BONUS;
    private static final int BAULK = Raidhall.BAULK;
    private static final int BACK = Raidhall.BACK;
    private static final int FALL = Raidhall.FALL;
    private static final int LINE = Raidhall.LINE;
    private static final int TIME = Raidhall.TIME;
    private static final int ON = Raidhall.ON;
    private static final int OUT = Raidhall.OUT;
    private static final int SUSPENDED = Raidhall.SUSPENDED;
    private static final int GONE = Raidhall.GONE;
    private static final int NONE = Raidhall.NONE;

    public static void main(String[] args) {
        argumentsOfAStep();
        statesOfAStep();
        answersOfAStep();
        raidsThatEndBack();
        emptyRaids();
        raidsThatEndHeld();
        comingBack();
        allOut();
        endsOfSuspensions();
        Check.end();
    }

    // ---- what a step is told with

    private static void argumentsOfAStep() {
        kinds();
        whoOfATouch();
        whoOfTheOthers();
        tenths();
        stepThrowsTheFirst();
    }

    private static void kinds() {
        Run r = Run.match("4: `kind`: TOUCH to TIME");
        r.does("raid", 0);
        for (int bad : new int[] {-1, 7, Integer.MIN_VALUE, Integer.MAX_VALUE}) {
            r.argument("step", bad, NONE, 300);
            r.argument("step", bad, 0, 300);
        }
        r.due(NONE, "step", TOUCH, 0, 1);
        r.due(1, "step", TIME, NONE, 300);
    }

    private static void whoOfATouch() {
        Run r = Run.match("4: `who`: of TOUCH the player, 0 to 9");
        r.does("change", 1, 5, 9);
        r.does("raid", 0);
        for (int bad : new int[] {-1, 10, -2, Integer.MIN_VALUE, Integer.MAX_VALUE}) {
            r.argument("step", TOUCH, bad, 1);
        }
        r.state("step", TOUCH, 8, 1);
        r.due(NONE, "step", TOUCH, 0, 1);
        r.due(NONE, "step", TOUCH, 9, 2);
    }

    private static void whoOfTheOthers() {
        for (int kind = BONUS; kind <= TIME; kind++) {
            Run r = Run.match("4: `who`: of others NONE");
            r.does("raid", 0);
            for (int bad : new int[] {0, 9, -2, 10, Integer.MIN_VALUE, Integer.MAX_VALUE}) {
                r.argument("step", kind, bad, 300);
            }
            r.due(kind < BACK ? NONE : 1, "step", kind, NONE, 300);
        }
    }

    private static void tenths() {
        for (int kind = TOUCH; kind <= TIME; kind++) {
            Run r = Run.match("4: `tenth`: 1 to 300");
            r.does("raid", 0);
            int who = kind == TOUCH ? 3 : NONE;
            for (int bad : new int[] {0, 301, -1, Integer.MIN_VALUE, Integer.MAX_VALUE}) {
                r.argument("step", kind, who, bad);
            }
            r.due(kind < BACK ? NONE : 1, "step", kind, who, kind == TIME ? 300 : 1);
        }
        Run last = Run.match("4: `tenth`: 1 to 300");
        last.does("raid", 0);
        last.due(1, "step", LINE, NONE, 300);
        last.due(300, "match", 0);
    }

    private static void stepThrowsTheFirst() {
        Run none = new Run("4: if several apply, the one that is named first is thrown");
        none.argument("step", 7, NONE, 1);
        none.argument("step", BACK, NONE, 301);
        none.argument("step", TOUCH, 10, 1);
        none.state("step", BACK, NONE, 300);
        Run r = Run.match("4: if several apply, the one that is named first is thrown");
        r.does("raid", 0);
        r.does("step", BAULK, NONE, 100);
        r.argument("step", BAULK, 0, 100);
        r.argument("step", TIME, NONE, 0);
        r.state("step", BAULK, NONE, 100);
    }

    // ---- what can be told

    private static void statesOfAStep() {
        aRaidMustGoOn();
        laterThanTheStepAhead();
        touchesOfThoseOn();
        touchesOfThoseNotTouched();
        sevenTouches();
        bonusOnce();
        baulkOnce();
        timeAtItsTenthAlone();
        atTheLastTenth();
        nothingChangesUntilItEnds();
    }

    private static void aRaidMustGoOn() {
        Run r = Run.match("4: if no raid goes on");
        r.state("step", BACK, NONE, 300);
        r.does("raid", 0);
        r.due(1, "step", BACK, NONE, 10);
        r.state("step", BACK, NONE, 11);
        r.state("step", TOUCH, 3, 11);
        r.does("card", 0, 1, 0);
        r.state("step", BACK, NONE, 11);
        r.does("raid", 1);
        r.does("takeBack", 2);
        r.state("step", BACK, NONE, 11);
    }

    private static void laterThanTheStepAhead() {
        Run r = Run.match("each later than the one ahead; 4: the tenth is not later than the step ahead");
        r.does("raid", 0);
        r.due(NONE, "step", TOUCH, 0, 1);
        r.state("step", TOUCH, 1, 1);
        r.due(NONE, "step", TOUCH, 1, 2);
        r.due(NONE, "step", BONUS, NONE, 150);
        r.state("step", BAULK, NONE, 149);
        r.state("step", BAULK, NONE, 150);
        r.due(NONE, "step", BAULK, NONE, 151);
        r.state("step", FALL, NONE, 151);
        r.state("step", BACK, NONE, 1);
        r.due(30, "step", BACK, NONE, 152);
        r.does("raid", 2);
        r.due(NONE, "step", BAULK, NONE, 1);
    }

    private static void touchesOfThoseOn() {
        Run r = Run.match("TOUCH of a player ON the other side's mat");
        r.touch(0, 1);
        r.empty(0, 20);
        r.does("card", 1, 2, 1);
        r.does("card", 1, 3, 2);
        r.does("card", 0, 4, 2);
        r.does("change", 1, 5, 8);
        r.does("raid", 0);
        r.state("step", TOUCH, 1, 5);
        r.state("step", TOUCH, 2, 5);
        r.state("step", TOUCH, 3, 5);
        r.state("step", TOUCH, 5, 5);
        r.state("step", TOUCH, 7, 5);
        r.due(NONE, "step", TOUCH, 8, 5);
        r.due(NONE, "step", TOUCH, 4, 6);
    }

    private static void touchesOfThoseNotTouched() {
        Run r = Run.match("TOUCH of a player who was not touched in this raid");
        r.does("raid", 0);
        r.due(NONE, "step", TOUCH, 4, 5);
        r.state("step", TOUCH, 4, 6);
        r.due(NONE, "step", TOUCH, 5, 6);
        r.state("step", TOUCH, 4, 7);
        r.does("step", LINE, NONE, 10);
        r.empty(0, 20);
        r.does("raid", 1);
        r.due(NONE, "step", TOUCH, 4, 5);
        r.state("step", TOUCH, 4, 6);
    }

    private static void sevenTouches() {
        Run r = Run.match("A raid: at most as many touches as are ON, BONUS and BAULK with them");
        r.does("raid", 0);
        for (int i = 0; i < 7; i++) {
            r.due(NONE, "step", TOUCH, i, 2 * i + 1);
            r.state("step", TOUCH, i, 2 * i + 2);
        }
        r.due(NONE, "step", BONUS, NONE, 20);
        r.due(NONE, "step", BAULK, NONE, 21);
        for (int i = 0; i < 10; i++) {
            r.state("step", TOUCH, i, 22);
        }
        r.due(100, "step", BACK, NONE, 22);
    }

    private static void bonusOnce() {
        Run r = Run.match("BONUS, once");
        r.does("raid", 0);
        r.due(NONE, "step", BONUS, NONE, 5);
        r.state("step", BONUS, NONE, 6);
        r.due(NONE, "step", TOUCH, 0, 6);
        r.state("step", BONUS, NONE, 7);
        r.due(20, "step", BACK, NONE, 8);
        r.does("raid", 1);
        r.due(NONE, "step", BONUS, NONE, 5);
    }

    private static void baulkOnce() {
        Run r = Run.match("BAULK, once");
        r.does("raid", 0);
        r.due(NONE, "step", BAULK, NONE, 5);
        r.state("step", BAULK, NONE, 6);
        r.due(NONE, "step", BONUS, NONE, 6);
        r.state("step", BAULK, NONE, 7);
        r.due(10, "step", BACK, NONE, 8);
        r.does("raid", 1);
        r.due(NONE, "step", BAULK, NONE, 5);
    }

    private static void timeAtItsTenthAlone() {
        Run r = Run.match("TIME, at the tenth 300 alone");
        r.does("raid", 0);
        r.state("step", TIME, NONE, 1);
        r.state("step", TIME, NONE, 299);
        r.due(1, "step", TIME, NONE, 300);
        r.does("raid", 0);
        r.does("step", TOUCH, 1, 299);
        r.state("step", TIME, NONE, 299);
        r.due(1, "step", TIME, NONE, 300);
        for (int end : new int[] {BACK, FALL, LINE}) {
            r.raidDue(1, 1, end, 300);
        }
    }

    private static void atTheLastTenth() {
        Run r = Run.match("each at a tenth, 1 to 300, each later than the one ahead: none behind 300");
        r.does("raid", 0);
        r.due(NONE, "step", BONUS, NONE, 299);
        r.due(NONE, "step", TOUCH, 0, 300);
        for (int kind = BAULK; kind <= TIME; kind++) {
            r.state("step", kind, NONE, 300);
        }
        r.due(1, "match", 3);
        r.due(1, "takeBack", 0);
        r.due(0, "match", 3);
    }

    private static void nothingChangesUntilItEnds() {
        Run r = Run.match("Nothing changes on the mats until a raid ends");
        r.does("raid", 0);
        r.does("step", TOUCH, 3, 5);
        r.does("step", BONUS, NONE, 6);
        r.due(ON, "player", 1, 3);
        r.due(NONE, "out", 1, 0);
        r.due(0, "points", 0);
        r.due(0, "raidPoints", 0, 0);
        r.does("step", BACK, NONE, 7);
        r.due(OUT, "player", 1, 3);
        r.due(3, "out", 1, 0);
        r.due(2, "points", 0);
        r.due(2, "raidPoints", 0, 0);
    }

    // ---- what an end answers

    private static void answersOfAStep() {
        String sentence = "4: how many points both sides have by the raid, 10 times those of the raiding one";
        Run r = Run.match(sentence);
        r.raidDue(0, 0, BACK, 20, BAULK);
        r.raidDue(10, 0, BACK, 20, BONUS);
        r.raidDue(1, 0, BACK, 20);
        r.raidDue(40, 0, BACK, 20, BONUS, 11, 12, 13);
        r.raidDue(11, 4, LINE, 20, BONUS);
        r.does("card", 1, 6, 2);
        r.raidDue(10, 0, BACK, 20, 15);
        r.raidDue(3, 6, FALL, 20);
        Run all = Run.match(sentence);
        all.raidDue(100, 0, BACK, 20, BONUS, 10, 11, 12, 13, 14, 15, 16);
        all.raidDue(60, 0, BACK, 20, 10, 11, 12, 13, 14, 15);
        all.raidDue(3, 6, FALL, 20);
        Run few = atMostStanding(3, sentence);
        few.raidDue(2, 0, FALL, 20);
    }

    // ---- with BACK

    private static void raidsThatEndBack() {
        bonusWithSixStanding();
        bonusWithFiveStanding();
        suspendedStand();
        outsDoNotStand();
        whatStandsAsItBegins();
        neitherTouchNorBonusNorBaulk();
        touchesAreOutInTheirOrder();
        bonusAloneMovesNobody();
    }

    private static void bonusWithSixStanding() {
        Run r = Run.match("the bonus is 1, if at least 6 of the other side were standing: 6");
        r.does("card", 1, 0, 2);
        r.raidDue(10, 3, BACK, 20, BONUS);
        r.due(1, "raidPoints", 0, 3);
    }

    private static void bonusWithFiveStanding() {
        Run r = Run.match("the bonus is 1, if at least 6 of the other side were standing: 5");
        r.does("card", 1, 0, 2);
        r.does("card", 1, 1, 2);
        r.raidDue(0, 3, BACK, 20, BONUS);
        r.due(0, "raidPoints", 0, 3);
        r.raidDue(10, 3, BACK, 20, BONUS);
        r.raidDue(10, 3, BACK, 20, BONUS, 12);
    }

    private static void suspendedStand() {
        Run r = Run.match("Standing are those who are ON, or SUSPENDED");
        r.does("card", 1, 0, 1);
        r.does("card", 1, 1, 1);
        r.does("card", 1, 2, 2);
        r.raidDue(10, 3, BACK, 20, BONUS);
        Run five = Run.match("Standing are those who are ON, or SUSPENDED");
        five.does("card", 1, 0, 1);
        five.does("card", 1, 1, 2);
        five.does("card", 1, 2, 2);
        five.raidDue(0, 3, BACK, 20, BONUS);
    }

    private static void outsDoNotStand() {
        Run r = Run.match("Standing are those who are ON, or SUSPENDED: not those OUT, nor on the BENCH");
        r.touch(3, 0);
        r.empty(3, 20);
        r.raidDue(10, 3, BACK, 20, BONUS);
        r.empty(3, 20);
        r.touch(3, 1);
        r.raid(3, BACK, 20, BONUS);
        r.raidDue(0, 3, BACK, 20, BONUS);
    }

    private static void whatStandsAsItBegins() {
        Run six = Run.match("What stands is looked at as it begins: those touched stood");
        six.does("card", 1, 0, 2);
        six.raidDue(30, 3, BACK, 20, 11, 12, BONUS);
        Run five = Run.match("What stands is looked at as it begins: those who come back did not stand");
        five.does("card", 1, 0, 2);
        five.touch(3, 1);
        five.empty(3, 20);
        // With the held raider one comes back, but five stood.
        five.raidDue(1, 3, LINE, 20, BONUS);
        five.due(ON, "player", 1, 1);
    }

    private static void neitherTouchNorBonusNorBaulk() {
        Run r = Run.match("If there was neither a touch, nor BONUS, nor BAULK, the raider is out");
        r.does("card", 1, 0, 2);
        r.does("card", 1, 1, 2);
        r.raidDue(1, 2, BACK, 20);
        r.due(OUT, "player", 0, 2);
        r.due(1, "points", 1);
        r.empty(5, 20);
        r.raidDue(0, 3, BACK, 20, BAULK);
        r.due(ON, "player", 0, 3);
        r.raid(5, BACK, 20, BONUS);
        r.raidDue(0, 3, BACK, 20, BONUS);
        r.due(ON, "player", 0, 3);
        Run touch = Run.match("If there was neither a touch, nor BONUS, nor BAULK, the raider is out");
        touch.raidDue(10, 3, BACK, 20, 16);
        touch.due(ON, "player", 0, 3);
    }

    private static void touchesAreOutInTheirOrder() {
        Run r = Run.match("those touched are out, in the order of touches");
        r.raid(0, BACK, 20, 15, BONUS, 10, BAULK, 13);
        r.look("out", 1, 5, 0, 3, NONE);
        r.empty(1, 20);
        r.touch(0, 2, 1);
        r.look("out", 1, 5, 0, 3, 2, 1, NONE);
    }

    private static void bonusAloneMovesNobody() {
        Run r = Run.match("as many of the raiding side come back as there were touches: none for a bonus");
        r.touch(0, 2);
        r.touch(3, 5, 6);
        r.look("out", 0, 5, 6, NONE);
        r.raidDue(10, 0, BACK, 20, BONUS);
        r.look("out", 0, 5, 6, NONE);
        r.due(NONE, "next", 1);
    }

    // ---- empty, do-or-die

    private static void emptyRaids() {
        oneEmptyIsNotEnough();
        twoEmptyAre();
        theTwoLatestOfThatSide();
        heldIsNotEmpty();
        idleIsNotEmpty();
        bonusThatDoesNotCountIsEmpty();
        doOrDieIsNotEmpty();
        doOrDieScored();
        doOrDieByABonus();
        doOrDieOfBothSides();
        doOrDieHeld();
    }

    private static void oneEmptyIsNotEnough() {
        Run r = Run.match("do-or-die, if the two latest raids of that side were both empty: one was");
        r.empty(0, 20);
        r.fall(0);
        r.due(0, "match", 4);
        r.raidDue(0, 0, BACK, 20, BAULK);
        r.due(ON, "player", 0, 0);
    }

    private static void twoEmptyAre() {
        Run r = Run.match("if it was do-or-die, the raider is out, and the other side has 1 point");
        r.empty(0, 20);
        r.fall(0);
        r.empty(0, 20);
        r.fall(1);
        r.due(1, "match", 4);
        r.raidDue(1, 0, BACK, 20, BAULK);
        r.due(OUT, "player", 0, 0);
        r.due(1, "points", 1);
        r.due(ON, "player", 1, 0);
        r.due(1, "next", 1);
    }

    private static void theTwoLatestOfThatSide() {
        Run r = Run.match("the two latest raids of that side: not one between, nor those of the other side");
        r.empty(0, 20);
        r.empty(0, 20);
        r.due(0, "match", 4);
        r.raid(0, BACK, 20, BONUS);
        r.due(0, "match", 4);
        r.raid(0, BACK, 20, BONUS);
        r.empty(0, 20);
        r.fall(0);
        r.due(0, "match", 4);
        r.empty(0, 20);
        r.fall(1);
        r.due(1, "match", 4);
    }

    private static void heldIsNotEmpty() {
        for (int end = FALL; end <= TIME; end++) {
            Run r = Run.match("A raid is do-or-die, if the two latest were both empty: a held one is not");
            r.empty(0, 20);
            r.fall(0);
            r.raid(0, end, 300, BAULK);
            r.fall(1);
            r.due(0, "match", 4);
            r.empty(0, 20);
            r.fall(2);
            r.due(0, "match", 4);
        }
    }

    private static void idleIsNotEmpty() {
        Run r = Run.match("Otherwise, if touches and bonus are 0 together, it is empty: an idle one is not");
        r.empty(0, 20);
        r.fall(0);
        r.raid(0, BACK, 20);
        r.fall(1);
        r.due(0, "match", 4);
        r.empty(1, 20);
        r.fall(2);
        r.due(0, "match", 4);
    }

    private static void bonusThatDoesNotCountIsEmpty() {
        Run r = Run.match("if touches and bonus are 0 together, it is empty: with BONUS that is 0");
        r.does("card", 1, 0, 2);
        r.does("card", 1, 1, 2);
        r.raidDue(0, 0, BACK, 20, BONUS);
        r.fall(2);
        r.raidDue(0, 0, BACK, 20, BONUS, BAULK);
        r.fall(3);
        r.due(1, "match", 4);
        r.raidDue(1, 0, BACK, 20, BONUS);
        r.due(OUT, "player", 0, 0);
    }

    private static void doOrDieIsNotEmpty() {
        Run r = Run.match("a raid that was do-or-die is not empty");
        r.empty(0, 20);
        r.fall(0);
        r.empty(0, 20);
        r.fall(1);
        r.raidDue(1, 0, BACK, 20, BAULK);
        r.fall(2);
        r.due(0, "match", 4);
        r.raidDue(0, 1, BACK, 20, BAULK);
        r.fall(3);
        r.due(0, "match", 4);
        r.raidDue(0, 1, BACK, 20, BAULK);
        r.fall(4);
        r.due(1, "match", 4);
    }

    private static void doOrDieScored() {
        Run r = Run.match("whether the raid is do-or-die: a touch saves it");
        r.empty(0, 20);
        r.fall(0);
        r.empty(0, 20);
        r.fall(1);
        r.raidDue(10, 0, BACK, 20, 14);
        r.due(ON, "player", 0, 0);
        r.fall(2);
        r.due(0, "match", 4);
    }

    private static void doOrDieByABonus() {
        Run r = Run.match("if touches and bonus are 0 together: a bonus alone saves it");
        r.empty(0, 20);
        r.empty(0, 20);
        r.empty(0, 20);
        r.empty(0, 20);
        r.raidDue(10, 0, BACK, 20, BONUS);
        r.due(ON, "player", 0, 0);
        r.due(1, "match", 4);
        r.raidDue(10, 0, BACK, 20, BONUS);
        r.due(0, "match", 4);
    }

    private static void doOrDieOfBothSides() {
        Run r = Run.match("A raid is do-or-die, if the two latest raids of that side were both empty: of each side");
        for (int i = 0; i < 3; i++) {
            r.due(0, "match", 4);
            r.empty(0, 20);
        }
        r.due(0, "match", 4);
        r.empty(0, 20);
        r.due(1, "match", 4);
        r.raidDue(1, 0, BACK, 20, BAULK);
        r.due(1, "match", 4);
        r.raidDue(1, 0, BACK, 20, BAULK);
        r.due(0, "match", 4);
    }

    private static void doOrDieHeld() {
        Run three = atMostStanding(3, "the raider is out, and the other side has 1 point: not 2 for a do-or-die");
        three.empty(1, 20);
        three.raid(1, BACK, 20, BONUS);
        three.empty(1, 20);
        three.raid(1, BACK, 20, BONUS);
        three.due(1, "match", 4);
        three.raidDue(1, 1, BACK, 20, BAULK);
    }

    // ---- with FALL, LINE, TIME

    /** Side 1 has so many standing, 3 or 4: 4 to 6 are GONE, and with 3 the player 0 is OUT; the side 0 raids next. */
    private static Run atMostStanding(int count, String sentence) {
        Run r = Run.match(sentence);
        r.does("card", 1, 4, 2);
        r.does("card", 1, 5, 2);
        r.does("card", 1, 6, 2);
        if (count == 3) {
            r.touch(3, 0);
        } else {
            r.empty(3, 20);
        }
        r.empty(1, 20);
        return r;
    }

    private static void raidsThatEndHeld() {
        fallWithThreeStanding();
        fallWithFourStanding();
        lineAndTimeWithThreeStanding();
        fallOfSuspendedStanding();
        threeOfTheRaidingSide();
        touchesDoNotCount();
        bonusCounts();
        theHeldRaiderIsOut();
    }

    private static void fallWithThreeStanding() {
        Run r = atMostStanding(3, "2 with FALL, if at most 3 of it were standing: 3");
        r.raidDue(2, 1, FALL, 20);
        r.due(2, "points", 1);
        r.due(OUT, "player", 0, 1);
        r.due(ON, "player", 1, 0);
    }

    private static void fallWithFourStanding() {
        Run r = atMostStanding(4, "2 with FALL, if at most 3 of it were standing: 4");
        r.raidDue(1, 1, FALL, 20);
    }

    private static void lineAndTimeWithThreeStanding() {
        for (int end : new int[] {LINE, TIME, BACK}) {
            Run r = atMostStanding(3, "the other side has 1 point, or 2 with FALL alone");
            r.raidDue(1, 1, end, 300);
        }
    }

    private static void fallOfSuspendedStanding() {
        Run four = Run.match("at most 3 of it were standing: one SUSPENDED stands");
        four.does("card", 1, 4, 2);
        four.does("card", 1, 5, 2);
        four.does("card", 1, 6, 1);
        four.touch(3, 0);
        four.empty(3, 20);
        four.raidDue(1, 1, FALL, 20);
        Run three = Run.match("at most 3 of it were standing: one SUSPENDED stands");
        three.does("card", 1, 4, 2);
        three.does("card", 1, 5, 2);
        three.does("card", 1, 6, 1);
        three.touch(3, 0, 1);
        three.empty(3, 20);
        three.raidDue(2, 1, FALL, 20);
    }

    private static void threeOfTheRaidingSide() {
        Run r = Run.match("at most 3 of it, of the other side, were standing: not of the raiding one");
        r.touch(0, 0, 1, 2, 3);
        r.raidDue(1, 5, FALL, 20);
    }

    private static void touchesDoNotCount() {
        for (int end = FALL; end <= TIME; end++) {
            Run r = Run.match("With FALL, LINE or TIME: Touches do not count");
            r.raidDue(1, 0, end, 300, 10, 11, 12, 13, 14, 15, 16);
            r.due(0, "points", 0);
            r.due(0, "raidPoints", 0, 0);
            r.due(127, "matAfter", 0, 1);
            r.due(126, "matAfter", 0, 0);
            r.due(NONE, "next", 1);
        }
        Run back = Run.match("With FALL, LINE or TIME: Touches do not count, and bring nobody back");
        back.raid(0, LINE, 20);
        back.empty(0, 20);
        back.raid(1, LINE, 20, 13);
        back.look("out", 0, 0, 1, NONE);
    }

    private static void bonusCounts() {
        for (int end = FALL; end <= TIME; end++) {
            Run r = Run.match("With FALL, LINE or TIME: the raiding side has the bonus as points");
            r.does("card", 1, 0, 2);
            r.raidDue(11, 0, end, 300, BONUS);
            r.due(1, "raidPoints", 0, 0);
            r.does("card", 1, 1, 2);
            r.empty(2, 20);
            r.raidDue(1, 1, end, 300, BONUS);
            r.due(0, "raidPoints", 0, 1);
        }
    }

    private static void theHeldRaiderIsOut() {
        for (int end = FALL; end <= TIME; end++) {
            Run r = Run.match("With FALL, LINE or TIME: the raider is out; one of the other side comes back");
            r.touch(0, 5, 6);
            r.empty(0, 20);
            r.raid(2, end, 300);
            r.due(OUT, "player", 0, 2);
            r.due(2, "next", 0);
            r.due(ON, "player", 1, 5);
            r.due(OUT, "player", 1, 6);
            r.due(1, "points", 1);
        }
    }

    // ---- coming back

    private static void comingBack() {
        asManyAsTouches();
        nobodyFromAnEmptyRow();
        oneForARaiderWhoIsOut();
        nobodyForARaiderIfTheRowIsEmpty();
        theLongestFirst();
    }

    /** Players 4, 2 and 0 of the side 0 are OUT, in this order; the side 0 raids next. */
    private static Run threeOut(String sentence) {
        Run r = Run.match(sentence);
        r.empty(1, 20);
        r.touch(6, 4, 2, 0);
        return r;
    }

    private static void asManyAsTouches() {
        String sentence = "as many of the raiding side come back as there were touches";
        Run one = threeOut(sentence);
        one.touch(1, 0);
        one.look("out", 0, 2, 0, NONE);
        Run two = threeOut(sentence);
        two.touch(1, 0, 1);
        two.look("out", 0, 0, NONE);
        Run three = threeOut(sentence);
        three.touch(1, 0, 1, 2);
        three.due(NONE, "next", 0);
        Run four = threeOut(sentence);
        four.touch(1, 0, 1, 2, 3);
        four.due(NONE, "next", 0);
        four.due(127, "matAfter", 2, 0);
    }

    private static void nobodyFromAnEmptyRow() {
        Run r = Run.match("nobody does, if the row is empty");
        r.touch(1, 0, 1);
        r.due(127, "matAfter", 0, 0);
        r.due(NONE, "next", 0);
        r.due(Raidhall.BENCH, "player", 0, 7);
    }

    private static void oneForARaiderWhoIsOut() {
        String sentence = "Wherever the raider is out, one of the other side comes back";
        for (int end = BACK; end <= TIME; end++) {
            Run r = Run.match(sentence);
            r.touch(1, 0, 1);
            r.empty(2, 20);
            r.raid(1, end, 300);
            r.look("out", 1, 1, NONE);
            r.look("out", 0, 1, NONE);
        }
    }

    private static void nobodyForARaiderIfTheRowIsEmpty() {
        for (int end = BACK; end <= TIME; end++) {
            Run r = Run.match("nobody does, if the row is empty: of the other side");
            r.raid(1, end, 300);
            r.due(127, "matAfter", 0, 1);
            r.due(NONE, "next", 1);
        }
    }

    private static void theLongestFirst() {
        Run r = threeOut("the row of those OUT, the longest first");
        r.look("out", 0, 4, 2, 0, NONE);
        r.raid(1, LINE, 20);
        r.look("out", 0, 4, 2, 0, 1, NONE);
        r.raid(6, LINE, 20);
        r.look("out", 0, 2, 0, 1, NONE);
        r.due(2, "next", 0);
        r.touch(4, 0);
        r.look("out", 0, 0, 1, NONE);
        r.touch(2, 4);
        r.look("out", 0, 0, 1, 4, NONE);
    }

    // ---- nobody ON

    private static void allOut() {
        oneIsLeftOn();
        nobodyIsLeftOn();
        suspendedAreNotOn();
        raidersSideIsAllOut();
        idleRaidersSideIsAllOut();
        raidersSideHasOneLeft();
        allOfTheRowComeBack();
        suspendedTooLate();
    }

    private static void oneIsLeftOn() {
        Run r = Run.match("if a side has nobody ON, the other side has 2 points more: one is");
        r.raidDue(60, 0, BACK, 20, 10, 11, 12, 13, 14, 15);
        r.due(64, "matAfter", 0, 1);
        r.due(6, "points", 0);
    }

    private static void nobodyIsLeftOn() {
        Run r = Run.match("if a side has nobody ON, the other side has 2 points more: nobody is");
        r.raidDue(90, 0, BACK, 20, 10, 11, 12, 13, 14, 15, 16);
        r.due(127, "matAfter", 0, 1);
        r.due(9, "points", 0);
        r.due(7, "raidPoints", 0, 0);
        r.due(NONE, "next", 1);
    }

    private static void suspendedAreNotOn() {
        Run r = Run.match("if a side has nobody ON: those SUSPENDED are not");
        r.does("card", 1, 6, 1);
        r.raidDue(80, 0, BACK, 20, 10, 11, 12, 13, 14, 15);
        r.due(63, "matAfter", 1, 1);
        r.due(SUSPENDED, "player", 1, 6);
        Run gone = Run.match("if a side has nobody ON: those GONE are not, nor those on the BENCH");
        gone.does("card", 1, 6, 2);
        gone.raidDue(80, 0, BACK, 20, 10, 11, 12, 13, 14, 15);
        gone.due(63, "matAfter", 1, 1);
        gone.due(GONE, "player", 1, 6);
        gone.due(Raidhall.BENCH, "player", 1, 7);
    }

    /** Side 0 has one player ON, the number 6; 0 to 5 are OUT; the side 0 raids next. */
    private static Run lastRaider(String sentence) {
        Run r = Run.match(sentence);
        r.empty(6, 20);
        r.touch(0, 0, 1, 2, 3, 4, 5);
        r.due(64, "matAfter", 1, 0);
        return r;
    }

    private static void raidersSideIsAllOut() {
        for (int end = FALL; end <= TIME; end++) {
            Run r = lastRaider("if a side has nobody ON, the other side has 2 points more: the raiding side");
            r.raidDue(3, 6, end, 300);
            r.due(127, "matAfter", 2, 0);
            r.due(9, "points", 1);
            r.due(NONE, "next", 0);
        }
    }

    private static void idleRaidersSideIsAllOut() {
        Run r = lastRaider("if a side has nobody ON, the other side has 2 points more: by an idle raid");
        r.raidDue(3, 6, BACK, 300);
        r.due(127, "matAfter", 2, 0);
        Run saved = lastRaider("if a side has nobody ON: the raider is");
        saved.raidDue(10, 6, BACK, 300, BONUS);
        saved.due(64, "matAfter", 2, 0);
    }

    private static void raidersSideHasOneLeft() {
        Run r = Run.match("if a side has nobody ON: one of the raiding side is");
        r.empty(6, 20);
        r.touch(0, 0, 1, 2, 3, 4);
        r.raidDue(1, 6, FALL, 20);
        r.due(32, "matAfter", 2, 0);
    }

    private static void allOfTheRowComeBack() {
        Run r = lastRaider("if a side has nobody ON, all of its row come back: and none of the other row");
        r.raid(6, BACK, 20, 15, 14);
        r.look("out", 1, 5, 4, NONE);
        r.look("out", 0, 2, 3, 4, 5, NONE);
        r.touch(0, 0, 1);
        r.look("out", 1, NONE);
        r.look("out", 0, 2, 3, 4, 5, 0, 1, NONE);
        r.raidDue(3, 6, FALL, 20);
        r.look("out", 0, NONE);
        r.due(127, "matAfter", 4, 0);
    }

    private static void suspendedTooLate() {
        Run r = Run.match("Then those SUSPENDED whose time is over are ON: behind the all-out, which they do not avert");
        r.does("card", 1, 6, 1);
        r.pass(3, 900);
        r.empty(3, 299);
        r.due(SUSPENDED, "player", 1, 6);
        // The touches end at the tenth by which the suspension is over.
        r.raidDue(80, 3, BACK, 20, 10, 11, 12, 13, 14, 15);
        r.due(127, "matAfter", 5, 1);
    }

    // ---- the end of a suspension

    private static void endsOfSuspensions() {
        oneTenthAhead();
        atTheTenth();
        notFromTheBegin();
        eachHasItsOwn();
    }

    private static void oneTenthAhead() {
        Run r = Run.match("yellow: SUSPENDED until the time of the match and 1200: one tenth ahead");
        r.does("card", 0, 0, 1);
        r.pass(3, 1199);
        r.due(1199, "match", 0);
        r.due(SUSPENDED, "player", 0, 0);
        r.due(126, "matAfter", 4, 0);
    }

    private static void atTheTenth() {
        Run r = Run.match("yellow: SUSPENDED until the time of the match and 1200: at it");
        r.does("card", 0, 0, 1);
        r.pass(3, 900);
        r.due(SUSPENDED, "player", 0, 0);
        r.pass(3, 300);
        r.due(1200, "match", 0);
        r.due(ON, "player", 0, 0);
        r.due(127, "matAfter", 4, 0);
        r.due(5, "raid", 0);
    }

    private static void notFromTheBegin() {
        Run r = Run.match("yellow: SUSPENDED until the time of the match, as it is then, and 1200");
        r.pass(3, 100);
        r.does("card", 0, 0, 1);
        r.pass(3, 1199);
        r.due(SUSPENDED, "player", 0, 0);
        r.pass(3, 2);
        r.due(1301, "match", 0);
        r.due(ON, "player", 0, 0);
        Run exact = Run.match("yellow: SUSPENDED until the time of the match, as it is then, and 1200");
        exact.pass(3, 100);
        exact.does("card", 0, 0, 1);
        exact.pass(3, 1200);
        exact.due(ON, "player", 0, 0);
    }

    private static void eachHasItsOwn() {
        Run r = Run.match("Then those SUSPENDED whose time is over are ON: the others are not");
        r.does("card", 0, 0, 1);
        r.does("card", 1, 1, 1);
        r.pass(3, 300);
        r.does("card", 0, 2, 1);
        r.pass(3, 900);
        r.due(ON, "player", 0, 0);
        r.due(ON, "player", 1, 1);
        r.due(SUSPENDED, "player", 0, 2);
        r.pass(3, 300);
        r.due(ON, "player", 0, 2);
    }
}
