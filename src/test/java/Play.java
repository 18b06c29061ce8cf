/** Makes a hall with a match in it, and plays whole raids. */
final class Play {
    static final int NONE = Raidhall.NONE;
    static final int LONG = 24000;

    private Play() {
    }

    static Raidhall match(int tenths) {
        Raidhall hall = new Raidhall();
        hall.begin(0, 1, tenths);
        return hall;
    }

    static Raidhall match() {
        return match(LONG);
    }

    /** Ends a raid at a tenth behind steps told as their kinds; a touch is told as 10 and the player. */
    static int raid(Raidhall hall, int raider, int endTenth, int end, int... steps) {
        hall.raid(raider);
        int tenth = 1;
        for (int step : steps) {
            boolean isTouch = step >= 10;
            hall.step(isTouch ? Raidhall.TOUCH : step, isTouch ? step - 10 : NONE, tenth++);
        }
        return hall.step(end, NONE, endTenth);
    }

    static int touch(int player) {
        return 10 + player;
    }

    static int empty(Raidhall hall, int raider, int endTenth) {
        return raid(hall, raider, endTenth, Raidhall.BACK, Raidhall.BAULK);
    }

    static int fall(Raidhall hall, int raider) {
        return raid(hall, raider, 100, Raidhall.FALL);
    }

    /** Both sides raid empty until the match has come to the time; that takes raids of 300 tenths. */
    static void passEmpty(Raidhall hall, int raids) {
        for (int i = 0; i < raids; i++) {
            int raider = firstOn(hall, hall.match(1));
            if (hall.match(4) == 1) {
                // A do-or-die raid must score, or the raider is out; the touched one comes back by the next score.
                raid(hall, raider, 300, Raidhall.BACK, touch(firstOn(hall, 1 - hall.match(1))));
            } else {
                empty(hall, raider, 300);
            }
        }
    }

    static int firstOn(Raidhall hall, int side) {
        for (int i = 0; i < 10; i++) {
            if (hall.player(side, i) == Raidhall.ON) {
                return i;
            }
        }
        return NONE;
    }

    static void type(Raidhall hall, String text) {
        for (int i = 0; i < text.length(); i++) {
            hall.type(text.charAt(i));
        }
    }

    static void retype(Raidhall hall, String text) {
        hall.clear();
        type(hall, text);
    }

    /** What can be seen of the match, as a text. */
    static String look(Raidhall x) {
        StringBuilder seen = new StringBuilder();
        for (int what = 0; what < 8; what++) {
            seen.append(x.match(what)).append(',');
        }
        int ended = x.match(2) - x.match(3);
        for (int side = 0; side < 2; side++) {
            seen.append("|").append(x.points(side)).append(x.hasReview(side)).append(x.next(side));
            for (int i = 0; i < 10; i++) {
                seen.append(' ').append(x.player(side, i)).append('/').append(x.out(side, i))
                        .append('/').append(x.raidPoints(side, i));
            }
            for (int i = 0; i < ended; i++) {
                seen.append(' ').append(x.matAfter(i, side)).append(':').append(x.pointsAfter(i, side));
            }
        }
        return seen.toString();
    }
}
