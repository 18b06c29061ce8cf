import java.util.ArrayList;
import java.util.List;

/**
 * Draws calls that go deep into a match, a league and an auction: it looks at the model for who is ON and what goes
 * on, and each seed has moods of its own, so that some runs are full of cards, others of empty raids, of reviews, ..
 */
final class DeepDraw {
    private static final String[] WORDS = {"raid", "touch", "bonus", "baulk", "back", "fall", "line", "time"};
    /** The calls with numbers as arguments, and how many. */
    private static final String[] NAMES = {"fault", "run", "clear", "enter", "hammer", "raid", "takeBack", "type",
        "next", "points", "match", "hasReview", "call", "player", "out", "matAfter", "matAnew", "pointsAfter",
        "raidPoints", "club", "right", "bid", "lot", "squad", "begin", "step", "card", "change", "wouldFall", "review"};
    private static final int[] COUNTS = {0, 0, 0, 0, 0, 1, 1, 1, 1, 1, 1, 1, 1, 2, 2, 2, 2, 2, 2, 2, 2, 2, 2, 2, 3, 3, 3,
        3, 4, 5};
    private static final int[] EDGES = {-2, -1, 0, 1, 2, 3, 4, 5, 6, 7, 8, 9, 10, 23, 24, 59, 60, 299, 300, 301, 1000,
        1001, 24000, Integer.MAX_VALUE, Integer.MIN_VALUE};

    private final Dice dice;
    private final Model model;
    private final List<Call> questions = Seen.questions();
    private final int asking;
    private final int wild;
    private final int selling;
    private final int writing;
    private final int touching;
    private final int baulking;
    private final int back;
    private final int cards;
    private final int changes;
    private final int reviews;
    private final int takingBack;
    private final boolean isLong;
    private final boolean isSlow;
    private String text = "";
    private int lastTenth;

    DeepDraw(long seed, Model model) {
        this.model = model;
        dice = new Dice(seed);
        asking = dice.below(30);
        wild = dice.below(10);
        selling = dice.isIn(30) ? dice.below(90) : dice.below(10);
        writing = dice.isIn(30) ? dice.below(60) : 0;
        touching = dice.isIn(40) ? dice.below(20) : dice.below(100);
        baulking = dice.below(100);
        back = dice.below(100);
        cards = dice.isIn(50) ? dice.below(40) : 0;
        changes = dice.below(15);
        reviews = dice.isIn(60) ? dice.below(40) : 0;
        takingBack = dice.isIn(50) ? dice.below(10) : 0;
        isLong = dice.isIn(60);
        isSlow = dice.isIn(30);
    }

    private int ask(String name, int... args) {
        String told = model.outcome(new Call(name, args));
        return told.startsWith("java") ? 0 : Integer.parseInt(told);
    }

    Call next() {
        if (dice.isIn(wild)) {
            return anyCall();
        } else if (dice.isIn(asking)) {
            // The last question is clear(), which does not only ask.
            return questions.get(dice.below(questions.size() - 1));
        } else if (dice.isIn(selling)) {
            return ofAuction();
        } else if (dice.isIn(writing)) {
            return ofTexts();
        } else if (model.outcome(new Call("match", 3)).startsWith("java")) {
            return begin();
        }
        return ask("match", 3) == 1 ? inARaid() : betweenRaids();
    }

    private Call anyCall() {
        int which = dice.below(NAMES.length + 1);
        if (which == NAMES.length) {
            return new Call("answer", dice.below(2));
        }
        int[] args = new int[COUNTS[which]];
        for (int i = 0; i < args.length; i++) {
            args[i] = dice.isIn(70) ? dice.below(dice.oneOf(2, 8)) : dice.oneOf(EDGES);
        }
        return new Call(NAMES[which], args);
    }

    private Call begin() {
        int club = dice.below(8);
        int tenths = isLong ? 24000 - dice.below(300) : 300 + dice.below(2) * dice.below(2000);
        return new Call("begin", club, (club + 1 + dice.below(7)) % 8,
                dice.isIn(15) ? dice.oneOf(299, 300, 24000, 24001) : tenths);
    }

    private int someoneOn(int side) {
        List<Integer> on = new ArrayList<>();
        for (int i = 0; i < 10; i++) {
            if (ask("player", side, i) == Raidhall.ON) {
                on.add(i);
            }
        }
        return dice.isIn(97) ? on.get(dice.below(on.size())) : dice.below(10);
    }

    private Call inARaid() {
        if (dice.isIn(takingBack)) {
            return new Call("takeBack", dice.below(ask("match", 2)));
        }
        int tenth = Math.min(300, lastTenth + 1 + dice.below(dice.isIn(20) ? 60 : 5));
        lastTenth = tenth;
        if (dice.isIn(touching)) {
            return new Call("step", Raidhall.TOUCH, someoneOn(1 - ask("match", 1)), tenth);
        } else if (dice.isIn(50)) {
            return new Call("step", dice.isIn(baulking) ? Raidhall.BAULK : Raidhall.BONUS, Raidhall.NONE, tenth);
        }
        int end = dice.isIn(back) ? Raidhall.BACK : dice.oneOf(Raidhall.FALL, Raidhall.LINE, Raidhall.TIME);
        int endTenth = isSlow ? dice.oneOf(299, 300, 300, 300) : tenth;
        return new Call("step", end, Raidhall.NONE, end == Raidhall.TIME ? 300 : endTenth);
    }

    private Call betweenRaids() {
        int events = ask("match", 2);
        if (ask("match", 5) == 1 && dice.isIn(30)) {
            return new Call("enter");
        } else if (dice.isIn(cards)) {
            int side = dice.below(2);
            return new Call("card", side, someoneOn(side), dice.below(3));
        } else if (dice.isIn(changes)) {
            int side = dice.below(2);
            return new Call("change", side, someoneOn(side), dice.isIn(60) ? 7 + dice.below(3) : dice.below(10));
        } else if (events > 0 && dice.isIn(reviews)) {
            return review(events);
        } else if (events > 0 && dice.isIn(takingBack)) {
            return new Call("takeBack", Math.max(0, events - 1 - dice.below(10)));
        }
        lastTenth = 0;
        return new Call("raid", someoneOn(ask("match", 1)));
    }

    private Call review(int events) {
        int event = dice.isIn(40) ? dice.below(events) : Math.max(0, events - 1 - dice.below(4));
        int kind = dice.below(6);
        int who = kind == Raidhall.TOUCH ? dice.below(8) : Raidhall.NONE;
        int step = dice.below(dice.isIn(70) ? 2 : 5);
        return dice.isIn(40) ? new Call("review", dice.below(2), event, step, kind, who)
                : new Call("wouldFall", event, step, kind, who);
    }

    private Call ofTexts() {
        if (text.isEmpty()) {
            switch (dice.below(6)) {
                case 0:
                    return new Call("clear");
                case 1, 2:
                    return new Call("run");
                case 3:
                    return new Call("fault");
                default:
                    text = order() + order();
            }
        }
        int sign = text.charAt(0);
        text = dice.isIn(1) ? "" : text.substring(1);
        return new Call("type", dice.isIn(1) ? 32 + dice.below(95) : sign);
    }

    private String order() {
        int word = dice.below(WORDS.length);
        String player = word < 2 ? digits(dice.isIn(90) ? 7 : 20) : "";
        String number = (dice.isIn(20) ? "0" : "") + digits(dice.oneOf(2, 10, 50, 301, 1000, 10000));
        return WORDS[word] + player + (word == 0 ? "" : "@" + number) + ";";
    }

    private String digits(int bound) {
        return dice.isIn(5) ? "" : Integer.toString(dice.below(bound));
    }

    private Call ofAuction() {
        switch (dice.below(10)) {
            case 0:
                return new Call("right", dice.below(8), dice.below(24));
            case 1, 2:
                return new Call("call", dice.isIn(50) ? 4 * dice.below(6) : dice.below(24));
            case 3, 4, 5, 6:
                int most = dice.isIn(80) ? 60 : 1001;
                int amount = highest() + dice.oneOf(4, 5, 5, 6, dice.below(most));
                // Few clubs bid, so that their squads are full at times.
                return new Call("bid", dice.below(dice.isIn(70) ? 2 : 8), Math.max(1, amount));
            case 7, 8:
                return new Call("hammer");
            default:
                return new Call("answer", dice.below(2));
        }
    }

    private int highest() {
        for (int lot = 0; lot < 24; lot++) {
            if (ask("lot", lot, 3) > 0) {
                return ask("lot", lot, 3);
            }
        }
        return dice.oneOf(5, 25, 45);
    }
}
