/** The boundaries of promises 1 to 3, 10 and 19, and of the terms of a match: a test for each sentence. */
public final class MatchBoundsTest {
    private static final int BENCH = Raidhall.BENCH;
    private static final int ON = Raidhall.ON;
    private static final int NONE = Raidhall.NONE;

    public static void main(String[] args) {
        aNewObject();
        begin();
        whatAMatchForgets();
        raid();
        sixtyEvents();
        timeOfAMatch();
        enter();
        match();
        Check.end();
    }

    // ---- promise 1

    private static void aNewObject() {
        noMatchAtFirst();
        noEventsAtFirst();
        pursesAreFull();
        nothingElseAtFirst();
    }

    private static void noMatchAtFirst() {
        Run r = new Run("1: No match");
        for (int what = 0; what < 8; what++) {
            r.state("match", what);
        }
        r.state("raid", 0);
        r.state("step", Raidhall.BACK, NONE, 300);
        r.state("card", 0, 0, 0);
        r.state("change", 0, 0, 7);
        r.state("enter");
        for (int side = 0; side < 2; side++) {
            r.state("player", side, 0);
            r.state("out", side, 0);
            r.state("next", side);
            r.state("points", side);
            r.state("hasReview", side);
            r.state("raidPoints", side, 0);
        }
        r.due(1, "begin", 0, 1, 300);
        r.due(0, "match", 0);
        r.due(ON, "player", 1, 0);
        r.due(0, "raid", 0);
    }

    private static void noEventsAtFirst() {
        Run r = new Run("1: No match; 9: if there is no such event");
        r.index("takeBack", 0);
        r.index("review", 0, 0, 0, Raidhall.BACK, NONE);
        r.index("wouldFall", 0, 0, Raidhall.BACK, NONE);
        for (String asks : new String[] {"matAfter", "matAnew", "pointsAfter"}) {
            r.index(asks, 0, 0);
        }
    }

    private static void pursesAreFull() {
        for (int club = 0; club < 8; club++) {
            Run r = new Run("1: all purses 1000");
            r.due(1000, "squad", club, 0);
            r.does("call", 1);
            r.argument("bid", club, 1001);
            r.due(1, "bid", club, 1000);
        }
    }

    private static void nothingElseAtFirst() {
        Run r = new Run("The auction: a squad, empty at first; the pad: initially empty");
        for (int club = 0; club < 8; club++) {
            r.look("squad", club, 1000, 0, 0);
            r.look("club", club, 0, 0, 0, 0, 0, 0, club);
        }
        for (int lot = 0; lot < 24; lot++) {
            r.look("lot", lot, NONE, NONE, NONE, NONE);
        }
        r.due(NONE, "fault");
        r.due(0, "run");
        r.due(0, "clear");
        r.state("hammer");
        r.state("answer", 1);
        r.state("bid", 0, 1000);
    }

    // ---- promise 2

    private static void begin() {
        clubsOfAMatch();
        anotherClub();
        howLongItLasts();
        matchesAreCounted();
        oneMatchAtATime();
        beginThrowsTheFirst();
    }

    private static void clubsOfAMatch() {
        for (int bad : new int[] {-1, 8, Integer.MIN_VALUE, Integer.MAX_VALUE}) {
            Run r = new Run("2: `club`: 0 to 7; if there is no such club, of either");
            r.index("begin", bad, 0, 300);
            r.index("begin", 0, bad, 300);
            r.due(1, "begin", 0, 7, 300);
            r.due(0, "match", 6);
            r.due(7, "match", 7);
        }
        Run other = new Run("2: `club`: 0 to 7");
        other.due(1, "begin", 7, 0, 300);
        other.due(7, "match", 6);
        other.due(0, "match", 7);
    }

    private static void anotherClub() {
        for (int club = 0; club < 8; club++) {
            Run r = new Run("2: if both are the same");
            r.argument("begin", club, club, 300);
            r.due(1, "begin", club, (club + 1) % 8, 300);
        }
    }

    private static void howLongItLasts() {
        for (int bad : new int[] {299, 24001, 0, -1, -300, Integer.MIN_VALUE, Integer.MAX_VALUE}) {
            Run r = new Run("2: `tenths`: 300 to 24000");
            r.argument("begin", 0, 1, bad);
            r.due(1, "begin", 0, 1, bad < 300 ? 300 : 24000);
        }
    }

    private static void matchesAreCounted() {
        Run r = new Run("2: Returns how many matches have begun, this one with them");
        for (int count = 1; count <= 4; count++) {
            r.argument("begin", 5, 5, 300);
            r.due(count, "begin", 5, count, 300);
            r.empty(0, 300);
            r.does("enter");
        }
        r.due(5, "begin", 0, 1, 300);
    }

    private static void oneMatchAtATime() {
        Run r = Run.match("2: if a match goes on, that is, was not entered", 300);
        r.state("begin", 2, 3, 300);
        r.does("raid", 0);
        r.state("begin", 2, 3, 300);
        r.does("takeBack", 0);
        r.state("begin", 2, 3, 300);
        r.empty(0, 300);
        r.due(1, "match", 5);
        r.state("begin", 2, 3, 300);
        r.does("enter");
        r.due(2, "begin", 2, 3, 300);
        r.state("begin", 4, 5, 300);
    }

    private static void beginThrowsTheFirst() {
        Run r = Run.match("2: if several apply, the one that is named first is thrown");
        r.index("begin", 8, 8, 299);
        r.index("begin", 0, -1, 24001);
        r.index("begin", 8, 0, 300);
        r.argument("begin", 3, 3, 300);
        r.argument("begin", 2, 3, 299);
        r.state("begin", 2, 3, 300);
    }

    // ---- promise 2: it is not known any more what was in the match ahead

    private static void whatAMatchForgets() {
        eventsAreForgotten();
        pointsAndPlayersAreForgotten();
        cardsAreForgotten();
        changesAreForgotten();
        emptyRaidsAreForgotten();
        lostReviewsAreForgotten();
    }

    private static void again(Run r) {
        r.does("enter");
        r.does("begin", 0, 1, 24000);
    }

    private static void eventsAreForgotten() {
        Run r = Run.match("2: it is not known any more what was in the one ahead: events", 300);
        r.empty(0, 300);
        again(r);
        r.due(0, "match", 0);
        r.due(0, "match", 1);
        r.due(0, "match", 2);
        r.due(0, "match", 5);
        r.index("takeBack", 0);
        r.index("matAfter", 0, 0);
        r.index("matAnew", 0, 0);
        r.index("pointsAfter", 0, 0);
        r.index("wouldFall", 0, 0, Raidhall.BAULK, NONE);
        r.index("review", 0, 0, 0, Raidhall.BAULK, NONE);
        r.due(0, "raid", 0);
    }

    private static void pointsAndPlayersAreForgotten() {
        Run r = Run.match("2: it is not known any more what was in the one ahead: points and players", 310);
        r.touch(0, 2, 4);
        r.does("card", 0, 5, 2);
        r.does("card", 1, 5, 1);
        r.does("change", 0, 6, 9);
        r.raid(0, Raidhall.FALL, 290, Raidhall.BONUS);
        again(r);
        for (int side = 0; side < 2; side++) {
            r.due(0, "points", side);
            r.due(NONE, "next", side);
            r.look("player", side, ON, ON, ON, ON, ON, ON, ON, BENCH, BENCH, BENCH);
            r.look("raidPoints", side, 0, 0, 0, 0, 0, 0, 0, 0, 0, 0);
        }
    }

    private static void cardsAreForgotten() {
        Run r = Run.match("5: A player who has had a card of this colour in the match", 300);
        r.does("card", 0, 2, 0);
        r.does("card", 0, 3, 1);
        r.empty(0, 300);
        again(r);
        r.due(0, "card", 0, 2, 0);
        r.due(1, "card", 0, 3, 1);
    }

    private static void changesAreForgotten() {
        Run r = Run.match("6: 5 times a side at most, of one match", 300);
        for (int i = 0; i < 5; i++) {
            r.does("change", 0, i % 2 == 0 ? 0 : 7, i % 2 == 0 ? 7 : 0);
        }
        r.empty(1, 300);
        again(r);
        r.due(1, "change", 0, 0, 7);
    }

    private static void emptyRaidsAreForgotten() {
        Run r = Run.match("A raid: the two latest raids of that side, of this match", 900);
        r.empty(0, 300);
        r.empty(0, 300);
        r.empty(0, 300);
        again(r);
        r.due(0, "match", 4);
        r.raidDue(0, 0, Raidhall.BACK, 10, Raidhall.BAULK);
        r.due(0, "match", 4);
    }

    private static void lostReviewsAreForgotten() {
        Run r = Run.match("Reviews: Each side has one review, of each match", 300);
        r.empty(0, 300);
        r.due(0, "review", 0, 0, 0, Raidhall.BAULK, NONE);
        r.due(0, "review", 1, 0, 0, Raidhall.BAULK, NONE);
        r.due(0, "hasReview", 0);
        again(r);
        r.due(1, "hasReview", 0);
        r.due(1, "hasReview", 1);
    }

    // ---- promise 3

    private static void raid() {
        raiders();
        raidersMustBeOn();
        raidersOfTheSideWhoseTurnItIs();
        oneRaidAtATime();
        turns();
        numbersOfEvents();
        raidThrowsTheFirst();
    }

    private static void raiders() {
        Run r = Run.match("3: `raider`: 0 to 9");
        for (int bad : new int[] {-1, 10, Integer.MIN_VALUE, Integer.MAX_VALUE}) {
            r.index("raid", bad);
        }
        r.state("raid", 9);
        r.due(0, "raid", 0);
        Run nine = Run.match("3: `raider`: 0 to 9");
        nine.does("change", 0, 0, 9);
        nine.state("raid", 0);
        nine.due(1, "raid", 9);
    }

    private static void raidersMustBeOn() {
        Run r = Run.match("3: the raider is not ON");
        r.fall(2);
        r.empty(0, 20);
        r.does("card", 0, 3, 1);
        r.does("card", 0, 4, 2);
        r.state("raid", 7);
        r.state("raid", 2);
        r.state("raid", 3);
        r.state("raid", 4);
        r.due(4, "raid", 6);
    }

    private static void raidersOfTheSideWhoseTurnItIs() {
        Run first = Run.match("A raid: a raider who is ON the mat of the side whose turn it is");
        first.does("card", 0, 5, 2);
        first.does("card", 1, 6, 2);
        first.state("raid", 5);
        first.due(2, "raid", 6);
        first.does("step", Raidhall.BAULK, NONE, 1);
        first.does("step", Raidhall.BACK, NONE, 2);
        first.state("raid", 6);
        first.due(3, "raid", 5);
    }

    private static void oneRaidAtATime() {
        Run r = Run.match("3: a raid goes on");
        r.does("raid", 0);
        r.state("raid", 0);
        r.state("raid", 1);
        r.does("step", Raidhall.BAULK, NONE, 299);
        r.state("raid", 1);
        r.does("step", Raidhall.BACK, NONE, 300);
        r.due(1, "raid", 1);
    }

    private static void turns() {
        Run r = Run.match("The side 0 raids first, then they take turns, raid by raid");
        r.due(0, "match", 1);
        r.does("card", 0, 0, 0);
        r.due(0, "match", 1);
        r.empty(0, 10);
        r.due(1, "match", 1);
        r.does("change", 1, 0, 7);
        r.does("card", 1, 1, 0);
        r.due(1, "match", 1);
        r.raid(2, Raidhall.TIME, 300);
        r.due(0, "match", 1);
        r.due(5, "raid", 1);
        r.due(1, "takeBack", 5);
        r.due(0, "match", 1);
        r.due(1, "takeBack", 4);
        r.due(1, "match", 1);
    }

    private static void numbersOfEvents() {
        Run r = Run.match("3: Returns the number of the event; numbered from 0");
        r.due(0, "raid", 0);
        r.does("step", Raidhall.LINE, NONE, 1);
        r.does("card", 0, 1, 0);
        r.due(2, "raid", 0);
        r.does("takeBack", 2);
        r.due(2, "raid", 1);
        r.does("takeBack", 0);
        r.due(0, "raid", 1);
    }

    private static void raidThrowsTheFirst() {
        Run none = new Run("3: if several apply, the one that is named first is thrown");
        none.index("raid", 10);
        none.state("raid", 9);
        Run r = Run.match("3: if several apply, the one that is named first is thrown");
        r.does("raid", 0);
        r.index("raid", -1);
        r.state("raid", 0);
    }

    // ---- at most 60 events

    private static void sixtyEvents() {
        sixtyRaids();
        cardsAndChangesCountAsEvents();
        theSixtiethCanBeACard();
        theSixtiethCanBeAChange();
        theSixtiethRaidCanEnd();
    }

    private static void sixtyRaids() {
        Run r = Run.match("at most 60; 3: or there are 60 events");
        r.fill(3, 59);
        r.due(59, "raid", 3);
        r.does("step", Raidhall.BAULK, NONE, 1);
        r.due(0, "step", Raidhall.BACK, NONE, 2);
        r.due(60, "match", 2);
        r.state("raid", 3);
        r.due(1, "takeBack", 59);
        r.due(59, "raid", 4);
    }

    private static void cardsAndChangesCountAsEvents() {
        Run r = Run.match("A match is a row of events: raids, cards and substitutions, at most 60");
        for (int i = 0; i < 7; i++) {
            r.does("card", 0, i, 0);
            r.does("card", 1, i, 0);
        }
        for (int i = 0; i < 5; i++) {
            r.does("change", 0, i % 2 == 0 ? 0 : 7, i % 2 == 0 ? 7 : 0);
        }
        r.due(19, "match", 2);
        r.fill(3, 60);
        r.due(60, "match", 2);
        r.state("raid", 3);
        r.state("card", 1, 3, 1);
        r.state("change", 1, 3, 9);
    }

    private static void theSixtiethCanBeACard() {
        Run r = Run.match("5: or there are 60 events");
        r.fill(3, 59);
        r.due(0, "card", 0, 0, 0);
        r.due(60, "match", 2);
        r.state("card", 1, 0, 0);
        r.does("takeBack", 59);
        r.due(0, "card", 1, 0, 0);
    }

    private static void theSixtiethCanBeAChange() {
        Run r = Run.match("6: or there are 60 events");
        r.fill(3, 59);
        r.due(1, "change", 0, 0, 7);
        r.due(60, "match", 2);
        r.state("change", 1, 0, 7);
        r.does("takeBack", 59);
        r.due(1, "change", 1, 0, 7);
    }

    private static void theSixtiethRaidCanEnd() {
        Run r = Run.match("The match: at most 60 events, and a raid that goes on is the last one");
        r.fill(3, 59);
        r.due(59, "raid", 3);
        r.due(60, "match", 2);
        r.state("card", 0, 0, 0);
        r.due(1, "step", Raidhall.FALL, NONE, 300);
        r.due(127, "matAfter", 59, 0);
        r.due(119, "matAfter", 59, 1);
        r.index("matAfter", 60, 1);
        r.due(0, "review", 0, 59, 0, Raidhall.LINE, NONE);
    }

    // ---- the time of the match

    private static void timeOfAMatch() {
        timeShort();
        timeExact();
        timeBeyond();
        timeOfRaidsThatHaveEnded();
        longestMatch();
    }

    private static void timeShort() {
        Run r = Run.match("when it has come to what the match lasts, no raid begins any more: one tenth ahead", 600);
        r.empty(0, 300);
        r.empty(0, 299);
        r.due(599, "match", 0);
        r.due(0, "match", 5);
        r.state("enter");
        r.due(2, "raid", 0);
    }

    private static void timeExact() {
        Run r = Run.match("when it has come to what the match lasts, no raid begins any more: at it", 600);
        r.empty(0, 300);
        r.empty(0, 300);
        r.due(600, "match", 0);
        r.due(1, "match", 5);
        r.state("raid", 0);
        r.due(NONE, "enter");
    }

    private static void timeBeyond() {
        Run r = Run.match("when it has come to what the match lasts, no raid begins any more: beyond", 301);
        r.empty(0, 300);
        r.empty(0, 300);
        r.due(600, "match", 0);
        r.due(1, "match", 5);
        r.state("raid", 0);
        r.due(1, "takeBack", 1);
        r.due(1, "raid", 0);
    }

    private static void timeOfRaidsThatHaveEnded() {
        Run r = Run.match("The time of the match is the tenths of all raids that have ended, together");
        r.due(0, "match", 0);
        r.does("raid", 0);
        r.does("step", Raidhall.TOUCH, 0, 299);
        r.due(0, "match", 0);
        r.does("step", Raidhall.BACK, NONE, 300);
        r.due(300, "match", 0);
        r.does("card", 1, 1, 0);
        r.does("change", 1, 1, 7);
        r.due(300, "match", 0);
        r.raid(3, Raidhall.LINE, 1);
        r.due(301, "match", 0);
        r.does("takeBack", 3);
        r.due(300, "match", 0);
    }

    private static void longestMatch() {
        Run r = Run.match("2: 300 to 24000: how long it lasts", 24000);
        for (int i = 0; i < 60; i++) {
            r.raid(3, Raidhall.BACK, 300, Raidhall.BONUS);
        }
        // 60 raids of 300 are the longest that can be played.
        r.due(18000, "match", 0);
        r.due(0, "match", 5);
        r.state("enter");
    }

    // ---- promise 10

    private static void enter() {
        enterNeedsAMatch();
        enterNeedsTheRaidToEnd();
        enterTellsTheWinner();
        thereIsNoMatchBehind();
    }

    private static void enterNeedsAMatch() {
        Run r = new Run("10: if there is no match");
        r.state("enter");
        r.does("begin", 0, 1, 300);
        r.state("enter");
        r.empty(0, 300);
        r.due(NONE, "enter");
        r.state("enter");
    }

    private static void enterNeedsTheRaidToEnd() {
        Run r = Run.match("10: a raid goes on, or its time has not come", 300);
        r.empty(0, 299);
        r.state("enter");
        r.does("raid", 0);
        r.state("enter");
        r.does("step", Raidhall.BAULK, NONE, 1);
        r.state("enter");
        r.does("step", Raidhall.BACK, NONE, 2);
        r.due(NONE, "enter");
    }

    private static void enterTellsTheWinner() {
        String sentence = "10: Returns the club that wins; NONE if both have as many points";
        Run first = new Run(sentence);
        first.does("begin", 6, 2, 300);
        first.raid(0, Raidhall.BACK, 300, Raidhall.BONUS);
        first.due(6, "enter");
        Run second = new Run(sentence);
        second.does("begin", 6, 2, 300);
        second.raid(0, Raidhall.TIME, 300);
        second.due(2, "enter");
        Run even = new Run(sentence);
        even.does("begin", 6, 2, 300);
        even.raid(0, Raidhall.TIME, 300, Raidhall.BONUS);
        even.due(1, "points", 0);
        even.due(1, "points", 1);
        even.due(NONE, "enter");
    }

    private static void thereIsNoMatchBehind() {
        Run r = Run.match("The league: There is no match any more then", 300);
        r.raid(0, Raidhall.BACK, 300, 12);
        r.does("enter");
        r.state("match", 2);
        r.state("points", 0);
        r.state("player", 0, 0);
        r.state("out", 1, 0);
        r.state("next", 1);
        r.state("hasReview", 0);
        r.state("raidPoints", 0, 0);
        r.state("raid", 0);
        r.state("step", Raidhall.BACK, NONE, 300);
        r.state("card", 0, 0, 0);
        r.state("change", 0, 0, 7);
        r.index("takeBack", 0);
        r.index("matAfter", 0, 0);
        r.index("matAnew", 0, 0);
        r.index("pointsAfter", 0, 0);
        r.index("wouldFall", 0, 0, Raidhall.TOUCH, 2);
        r.index("review", 0, 0, 0, Raidhall.TOUCH, 2);
    }

    // ---- promise 19

    private static void match() {
        whatOfAMatch();
        whetherARaidGoesOn();
        whetherItIsDoOrDie();
        matchThrowsTheFirst();
    }

    private static void whatOfAMatch() {
        Run r = new Run("19: `what`: 0 to 7");
        r.does("begin", 7, 3, 300);
        for (int bad : new int[] {-1, 8, Integer.MIN_VALUE, Integer.MAX_VALUE}) {
            r.argument("match", bad);
        }
        int[] wants = {0, 0, 0, 0, 0, 0, 7, 3};
        for (int what = 0; what < 8; what++) {
            r.due(wants[what], "match", what);
        }
    }

    private static void whetherARaidGoesOn() {
        Run r = Run.match("19: 3 whether a raid goes on, 1 or 0; 1 whose turn to raid it is");
        r.due(0, "match", 3);
        r.does("raid", 0);
        r.due(1, "match", 3);
        r.due(0, "match", 1);
        r.due(1, "match", 2);
        r.does("step", Raidhall.BAULK, NONE, 1);
        r.due(1, "match", 3);
        r.does("step", Raidhall.BACK, NONE, 2);
        r.due(0, "match", 3);
        r.due(1, "match", 1);
        r.does("raid", 0);
        r.due(1, "match", 3);
        r.due(1, "match", 1);
        r.does("takeBack", 1);
        r.due(0, "match", 3);
        r.due(1, "match", 1);
    }

    private static void whetherItIsDoOrDie() {
        Run r = Run.match("19: 4 whether the next raid, or that which goes on, is do-or-die");
        r.empty(0, 10);
        r.fall(0);
        r.empty(0, 10);
        r.due(0, "match", 4);
        r.fall(1);
        r.due(1, "match", 4);
        r.does("raid", 0);
        r.due(1, "match", 4);
        r.does("step", Raidhall.FALL, NONE, 9);
        r.due(0, "match", 4);
    }

    private static void matchThrowsTheFirst() {
        Run r = new Run("19: if several apply, the one that is named first is thrown");
        r.argument("match", 8);
        r.argument("match", -1);
        r.state("match", 7);
        r.state("match", 0);
    }
}
