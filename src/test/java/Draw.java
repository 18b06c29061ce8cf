/** Draws calls, always the same ones from a seed: mostly such as can be done, at times ones that cannot. */
final class Draw {
    private static final String[] WORDS = {"raid", "touch", "bonus", "baulk", "back", "fall", "line", "time"};

    private final Dice dice;
    private boolean isThere;
    private boolean isRaiding;
    private int events;
    private int lastTenth;
    private int bid;
    /** The signs that are still to be typed. */
    private String text = "";

    Draw(long seed) {
        dice = new Dice(seed);
    }

    private int below(int bound) {
        return dice.below(bound);
    }

    private int about(int bound) {
        return dice.about(bound);
    }

    /** What a call that was answered tells of where the match is, so that the next ones fit. */
    void see(Call call, int answer) {
        switch (call.name()) {
            case "begin", "enter" -> {
                isThere = call.name().equals("begin");
                isRaiding = false;
                events = 0;
            }
            case "raid" -> {
                isRaiding = true;
                events = answer + 1;
                lastTenth = 0;
            }
            case "step" -> {
                isRaiding = answer == Raidhall.NONE;
                lastTenth = call.args()[2];
            }
            case "card", "change" -> events++;
            case "takeBack" -> {
                isRaiding = false;
                // run() may have begun raids that are not counted here.
                events = Math.max(0, events - answer);
            }
            case "call" -> bid = answer - 5;
            case "bid" -> bid = call.args()[1];
            default -> {
                // The others do not change how far the match is; what run() did shows by the next calls.
            }
        }
    }

    Call next() {
        if (!isThere && below(4) == 0) {
            return new Call("begin", about(8), about(8), below(9) == 0 ? 0 : 300 + below(2500));
        }
        int kind = below(100);
        if (kind < 60) {
            return isRaiding && below(30) > 0 ? step() : new Call("raid", below(20) == 0 ? about(10) : below(7));
        } else if (kind < 76) {
            return betweenRaids(kind - 60);
        } else if (kind < 88) {
            return ofTexts();
        }
        return ofAuction();
    }

    private Call step() {
        int kind = below(3) == 0 ? Raidhall.TOUCH : about(7);
        int who = kind == Raidhall.TOUCH ? about(10) : below(30) == 0 ? 0 : Raidhall.NONE;
        int tenth = below(12) == 0 ? about(301) : Math.min(300, lastTenth + 1 + below(40));
        return new Call("step", kind, who, kind == Raidhall.TIME ? 300 : tenth);
    }

    private Call betweenRaids(int kind) {
        if (kind < 3) {
            return new Call("card", about(2), about(10), about(3));
        } else if (kind < 5) {
            return new Call("change", about(2), about(10), 9 - below(4));
        } else if (kind < 13) {
            int told = about(6);
            int who = told == Raidhall.TOUCH ? about(10) : Raidhall.NONE;
            int[] step = {about(events + 1), below(3), told, who};
            return below(3) == 0 ? new Call("wouldFall", step)
                    : new Call("review", about(2), step[0], step[1], step[2], step[3]);
        } else if (kind < 14) {
            return new Call("takeBack", below(3) == 0 ? about(events + 1) : Math.max(0, events - 1 - below(3)));
        }
        return below(4) > 0 ? new Call("enter") : new Call("begin", about(8), about(8), 300);
    }

    private Call ofTexts() {
        if (!text.isEmpty()) {
            int sign = text.charAt(0);
            text = below(60) == 0 ? "" : text.substring(1);
            return new Call("type", below(60) == 0 ? 30 + below(100) : sign);
        }
        switch (below(6)) {
            case 0:
                return new Call("clear");
            case 1, 2:
                return new Call("run");
            case 3:
                return new Call("fault");
            default:
                text = order() + order();
                return ofTexts();
        }
    }

    private String order() {
        int word = below(WORDS.length);
        String player = word < 2 ? Integer.toString(below(7)) : "";
        return WORDS[word] + player + (word == 0 ? "" : "@" + below(301)) + ";";
    }

    private Call ofAuction() {
        return switch (below(6)) {
            case 0 -> new Call("right", about(8), about(24));
            case 1 -> new Call("call", about(24));
            case 2, 3 -> new Call("bid", about(8), below(4) == 0 ? about(1001) : bid + 5 * below(12));
            case 4 -> new Call("hammer");
            default -> new Call("answer", below(2));
        };
    }
}
