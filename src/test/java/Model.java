import java.util.ArrayList;
import java.util.Arrays;
import java.util.List;

/**
 * The document told a second time, in its plainest form: nothing is kept but what was told, and every answer is worked
 * out anew from the first event on. It shares no line with the class, so that both must be wrong alike to agree.
 */
final class Model {
    private static final String INDEX = IndexOutOfBoundsException.class.getName();
    private static final String ARGUMENT = IllegalArgumentException.class.getName();
    private static final String STATE = IllegalStateException.class.getName();

    /** What was told of an event: r, a raid, has a raider and steps; k, a card, its colour; c, a change, both players. */
    private record Told(char sort, int side, int player, int detail, List<int[]> steps) {
        boolean isEnded() {
            return sort != 'r' || !steps.isEmpty() && steps.get(steps.size() - 1)[0] >= 3;
        }

        Told with(int place, int kind, int who) {
            List<int[]> anew = new ArrayList<>(steps);
            anew.set(place, new int[] {kind, who, steps.get(place)[2]});
            return new Told(sort, side, player, detail, anew);
        }
    }

    /** What stands behind some events. */
    private static final class World {
        /** What each player is: o ON, b on the BENCH, x OUT, s SUSPENDED, g GONE. */
        final char[][] is = new char[2][10];
        final int[][] until = new int[2][10];
        final String[][] cards = new String[2][10];
        final int[][] made = new int[2][10];
        final List<List<Integer>> rows = List.of(new ArrayList<>(), new ArrayList<>());
        final int[] points = new int[2];
        final int[] changes = new int[2];
        /** For each side a sign a raid: e if it was empty, otherwise n. */
        final String[] raids = {"", ""};
        int time;

        World() {
            for (int side = 0; side < 2; side++) {
                Arrays.fill(cards[side], "");
                for (int i = 0; i < 10; i++) {
                    is[side][i] = i < 7 ? 'o' : 'b';
                }
            }
        }

        int turn() {
            return raids[0].length() == raids[1].length() ? 0 : 1;
        }

        boolean isDoOrDie() {
            return raids[turn()].endsWith("ee");
        }

        int count(int side, String those) {
            int found = 0;
            for (char one : is[side]) {
                found += those.indexOf(one) >= 0 ? 1 : 0;
            }
            return found;
        }

        int bits(int side) {
            int bits = 0;
            for (int i = 0; i < 10; i++) {
                bits += is[side][i] == 'o' ? 1 << i : 0;
            }
            return bits;
        }

        void leave(int side, int player) {
            is[side][player] = 'x';
            rows.get(side).add(player);
        }

        void back(int side, int most) {
            for (int i = 0; i < most && !rows.get(side).isEmpty(); i++) {
                is[side][rows.get(side).remove(0)] = 'o';
            }
        }

        void allOut() {
            for (int side = 0; side < 2; side++) {
                if (count(side, "o") == 0) {
                    points[1 - side] += 2;
                    back(side, 10);
                }
            }
        }

        int colour(int side, int player, int told) {
            int colour = told;
            while (cards[side][player].contains("" + colour) && colour < 2) {
                colour++;
            }
            return colour;
        }

        boolean stands(Told told) {
            int side = told.sort == 'r' ? turn() : told.side;
            if (is[side][told.player] != 'o') {
                return false;
            }
            if (told.sort == 'k') {
                return colour(side, told.player, told.detail) == 0 || count(side, "sg") <= 2;
            }
            if (told.sort == 'c') {
                return is[side][told.detail] == 'b' && changes[side] <= 4;
            }
            for (int i = 0; i < told.steps.size(); i++) {
                if (!fits(told.steps.subList(0, i), told.steps.get(i))) {
                    return false;
                }
            }
            return true;
        }

        /** Whether a step fits behind those ahead of it. */
        boolean fits(List<int[]> ahead, int[] step) {
            for (int[] one : ahead) {
                if (one[2] >= step[2] || one[0] >= 3 || one[0] == step[0] && one[1] == step[1]) {
                    return false;
                }
            }
            return switch (step[0]) {
                case 0 -> is[1 - turn()][step[1]] == 'o';
                case 6 -> step[2] == 300;
                default -> true;
            };
        }

        void follow(Told told) {
            switch (told.sort) {
                case 'k' -> card(told.side, told.player, colour(told.side, told.player, told.detail));
                case 'c' -> {
                    is[told.side][told.player] = 'b';
                    is[told.side][told.detail] = 'o';
                    changes[told.side]++;
                }
                default -> raid(told.player, told.steps);
            }
        }

        private void card(int side, int player, int colour) {
            cards[side][player] += colour;
            if (colour == 1) {
                is[side][player] = 's';
                until[side][player] = time + 1200;
            }
            if (colour == 2) {
                is[side][player] = 'g';
                points[1 - side]++;
            }
            allOut();
        }

        private void raid(int raider, List<int[]> steps) {
            int mine = turn();
            int other = 1 - mine;
            String kinds = "";
            List<Integer> touched = new ArrayList<>();
            for (int[] step : steps) {
                kinds += step[0];
                if (step[0] == 0) {
                    touched.add(step[1]);
                }
            }
            int standing = count(other, "os");
            int bonus = kinds.contains("1") && standing > 5 ? 1 : 0;
            boolean isBack = kinds.endsWith("3");
            boolean isIdle = kinds.equals("3");
            boolean isNothing = touched.isEmpty() && bonus == 0;
            boolean isOut = !isBack || isIdle || isNothing && isDoOrDie();
            int own = isBack ? touched.size() + bonus : bonus;
            points[mine] += own;
            made[mine][raider] += own;
            raids[mine] += isBack && isNothing && !isOut ? "e" : "n";
            if (isOut) {
                points[other] += kinds.endsWith("4") && standing < 4 ? 2 : 1;
                leave(mine, raider);
                back(other, 1);
            } else {
                for (int player : touched) {
                    leave(other, player);
                }
                back(mine, touched.size());
            }
            allOut();
            time += steps.get(steps.size() - 1)[2];
            for (int side = 0; side < 2; side++) {
                for (int i = 0; i < 10; i++) {
                    if (is[side][i] == 's' && time >= until[side][i]) {
                        is[side][i] = 'o';
                    }
                }
            }
        }
    }

    private final List<Told> told = new ArrayList<>();
    private boolean isThere;
    private int begun;
    private int[] clubs = {0, 0};
    private int lasts;
    private final boolean[] isLost = new boolean[2];
    private String pad = "";
    /** The two clubs of each match that was entered, and their points. */
    private final List<int[]> entered = new ArrayList<>();
    private final List<int[]> sold = new ArrayList<>();
    private final int[] rights = new int[24];
    private int called = -1;
    private boolean isAsked;
    private final List<int[]> bids = new ArrayList<>();

    Model() {
        Arrays.fill(rights, -1);
    }

    /** The answer, or the exception's name. */
    String outcome(Call call) {
        int[] a = call.args();
        return switch (call.name()) {
            case "begin" -> begin(a[0], a[1], a[2]);
            case "raid" -> raid(a[0]);
            case "step" -> step(a[0], a[1], a[2]);
            case "card" -> card(a[0], a[1], a[2]);
            case "change" -> change(a[0], a[1], a[2]);
            case "review" -> review(a[0], a[1], a[2], a[3], a[4]);
            case "wouldFall" -> wouldFall(a[0], a[1], a[2], a[3]);
            case "takeBack" -> takeBack(a[0]);
            case "enter" -> enter();
            case "type" -> type(a[0]);
            case "clear" -> clear();
            case "fault" -> "" + fault();
            case "run" -> run();
            case "right", "call", "bid", "hammer", "answer", "lot", "squad" -> auction(call.name(), a);
            case "club" -> club(a[0], a[1]);
            case "matAfter", "matAnew", "pointsAfter" -> behind(call.name(), a[0], a[1]);
            case "match" -> match(a[0]);
            default -> ofSide(call.name(), a);
        };
    }

    private static boolean in(int value, int least, int most) {
        return least <= value && value <= most;
    }

    private World world(int events) {
        World world = new World();
        for (Told one : told.subList(0, events)) {
            world.follow(one);
        }
        return world;
    }

    private int ended() {
        return isRaiding() ? told.size() - 1 : told.size();
    }

    private boolean isRaiding() {
        return !told.isEmpty() && !told.get(told.size() - 1).isEnded();
    }

    private World now() {
        return world(ended());
    }

    // ---- matches

    private String begin(int club, int other, int tenths) {
        if (!in(club, 0, 7) || !in(other, 0, 7)) {
            return INDEX;
        }
        if (club == other || !in(tenths, 300, 24000)) {
            return ARGUMENT;
        }
        if (isThere) {
            return STATE;
        }
        isThere = true;
        clubs = new int[] {club, other};
        lasts = tenths;
        Arrays.fill(isLost, false);
        begun++;
        return "" + begun;
    }

    private boolean mayAdd(Told event) {
        return isThere && !isRaiding() && told.size() < 60 && now().stands(event);
    }

    private String raid(int raider) {
        if (!in(raider, 0, 9)) {
            return INDEX;
        }
        Told raid = new Told('r', -1, raider, -1, new ArrayList<>());
        if (!mayAdd(raid) || now().time >= lasts) {
            return STATE;
        }
        told.add(raid);
        return "" + (told.size() - 1);
    }

    private static boolean isStep(int kind, int who, int last) {
        return in(kind, 0, last) && (kind == 0 ? in(who, 0, 9) : who == -1);
    }

    private String step(int kind, int who, int tenth) {
        if (!isStep(kind, who, 6) || !in(tenth, 1, 300)) {
            return ARGUMENT;
        }
        int[] step = {kind, who, tenth};
        if (!isRaiding() || !now().fits(told.get(told.size() - 1).steps, step)) {
            return STATE;
        }
        World before = now();
        int mine = before.turn();
        told.get(told.size() - 1).steps.add(step);
        if (isRaiding()) {
            return "-1";
        }
        World after = now();
        return "" + (10 * (after.points[mine] - before.points[mine])
                + after.points[1 - mine] - before.points[1 - mine]);
    }

    private String card(int side, int player, int colour) {
        if (!in(side, 0, 1) || !in(player, 0, 9)) {
            return INDEX;
        }
        if (!in(colour, 0, 2)) {
            return ARGUMENT;
        }
        Told card = new Told('k', side, player, colour, List.of());
        if (!mayAdd(card)) {
            return STATE;
        }
        int is = now().colour(side, player, colour);
        told.add(card);
        return "" + is;
    }

    private String change(int side, int leaves, int comes) {
        if (!in(side, 0, 1) || !in(leaves, 0, 9) || !in(comes, 0, 9)) {
            return INDEX;
        }
        Told change = new Told('c', side, leaves, comes, List.of());
        if (!mayAdd(change)) {
            return STATE;
        }
        told.add(change);
        return "" + now().changes[side];
    }

    private boolean isStepOfEndedRaid(int event, int step) {
        return in(event, 0, ended() - 1) && told.get(event).sort == 'r'
                && in(step, 0, told.get(event).steps.size() - 1);
    }

    private List<Told> reviewed(int event, int step, int kind, int who) {
        List<Told> anew = new ArrayList<>(told);
        anew.set(event, told.get(event).with(step, kind, who));
        return anew;
    }

    private int fallen(int event, int step, int kind, int who) {
        if (told.get(event).steps.get(step)[0] >= 3 != kind >= 3) {
            return event;
        }
        List<Told> anew = reviewed(event, step, kind, who);
        World world = new World();
        for (int i = 0; i < ended(); i++) {
            if (!world.stands(anew.get(i))) {
                return i;
            }
            world.follow(anew.get(i));
        }
        return -1;
    }

    private String wouldFall(int event, int step, int kind, int who) {
        if (!isStepOfEndedRaid(event, step)) {
            return INDEX;
        }
        return isStep(kind, who, 5) ? "" + fallen(event, step, kind, who) : ARGUMENT;
    }

    private String review(int side, int event, int step, int kind, int who) {
        if (!in(side, 0, 1) || !isStepOfEndedRaid(event, step)) {
            return INDEX;
        }
        if (!isStep(kind, who, 5)) {
            return ARGUMENT;
        }
        if (isRaiding() || isLost[side] || fallen(event, step, kind, who) != -1) {
            return STATE;
        }
        World before = now();
        List<Told> anew = reviewed(event, step, kind, who);
        told.clear();
        told.addAll(anew);
        World after = now();
        int more = after.points[side] - after.points[1 - side] - (before.points[side] - before.points[1 - side]);
        isLost[side] = more <= 0;
        return "" + more;
    }

    private String takeBack(int event) {
        if (!in(event, 0, told.size() - 1)) {
            return INDEX;
        }
        int count = told.size() - event;
        told.subList(event, told.size()).clear();
        return "" + count;
    }

    private boolean isOver() {
        return isThere && !isRaiding() && now().time >= lasts;
    }

    private String enter() {
        if (!isOver()) {
            return STATE;
        }
        int[] points = now().points;
        entered.add(new int[] {clubs[0], clubs[1], points[0], points[1]});
        isThere = false;
        told.clear();
        return "" + (points[0] == points[1] ? -1 : points[0] > points[1] ? clubs[0] : clubs[1]);
    }

    // ---- texts

    private String type(int sign) {
        if (!in(sign, 32, 126)) {
            return ARGUMENT;
        }
        if (pad.length() == 60) {
            return STATE;
        }
        pad += (char) sign;
        return "" + pad.length();
    }

    private String clear() {
        int had = pad.length();
        pad = "";
        return "" + had;
    }

    /** Whether some order begins with this text: each word with all that belongs to it is tried. */
    private static boolean isBeginOfAnOrder(String text) {
        for (String shape : new String[] {"raidP;", "touchP@N;", "bonus@N;", "baulk@N;", "back@N;", "fall@N;",
                "line@N;", "time@N;"}) {
            for (String number : new String[] {"#", "##", "###"}) {
                String order = shape.replace("P", "#").replace("N", number);
                if (text.length() <= order.length()
                        && text.replaceAll("[0-9]", "#").equals(order.substring(0, text.length()))
                        && text.indexOf('#') < 0) {
                    return true;
                }
            }
        }
        return false;
    }

    private int fault() {
        int from = 0;
        for (int i = 0; i < pad.length(); i++) {
            if (!isBeginOfAnOrder(pad.substring(from, i + 1))) {
                return i;
            }
            if (pad.charAt(i) == ';') {
                from = i + 1;
            }
        }
        return from == pad.length() ? -1 : pad.length();
    }

    private String run() {
        if (fault() != -1) {
            return STATE;
        }
        int done = 0;
        String[] orders = pad.isEmpty() ? new String[0] : pad.split(";");
        for (String order : orders) {
            String got;
            if (order.startsWith("raid")) {
                got = raid(order.charAt(4) - '0');
            } else {
                int at = order.indexOf('@');
                int kind = List.of("touch", "bonus", "baulk", "back", "fall", "line", "time")
                        .indexOf(order.substring(0, at).replaceAll("[0-9]", ""));
                int who = kind == 0 ? order.charAt(5) - '0' : -1;
                got = step(kind, who, Integer.parseInt(order.substring(at + 1)));
            }
            if (got.startsWith("java")) {
                return "" + done;
            }
            done++;
        }
        return "" + done;
    }

    // ---- the match as it is

    private String ofSide(String name, int[] a) {
        boolean isOfPlayer = name.equals("player") || name.equals("raidPoints");
        if (!in(a[0], 0, 1) || isOfPlayer && !in(a[1], 0, 9) || name.equals("out") && a[1] < 0) {
            return INDEX;
        }
        if (!isThere) {
            return STATE;
        }
        World now = now();
        List<Integer> row = now.rows.get(a[0]);
        return "" + switch (name) {
            case "player" -> "obxsg".indexOf(now.is[a[0]][a[1]]);
            case "raidPoints" -> now.made[a[0]][a[1]];
            case "out" -> a[1] < row.size() ? row.get(a[1]) : -1;
            case "next" -> row.isEmpty() ? -1 : row.get(0);
            case "points" -> now.points[a[0]];
            default -> isLost[a[0]] ? 0 : 1;
        };
    }

    private String match(int what) {
        if (!in(what, 0, 7)) {
            return ARGUMENT;
        }
        if (!isThere) {
            return STATE;
        }
        return "" + switch (what) {
            case 0 -> now().time;
            case 1 -> now().turn();
            case 2 -> told.size();
            case 3 -> isRaiding() ? 1 : 0;
            case 4 -> now().isDoOrDie() ? 1 : 0;
            case 5 -> isOver() ? 1 : 0;
            default -> clubs[what - 6];
        };
    }

    private String behind(String name, int event, int side) {
        if (!in(event, 0, ended() - 1) || !in(side, 0, 1)) {
            return INDEX;
        }
        World world = world(event + 1);
        return "" + (name.equals("pointsAfter") ? world.points[side] : world.bits(side));
    }

    // ---- the league

    private String club(int club, int what) {
        if (!in(club, 0, 7)) {
            return INDEX;
        }
        if (!in(what, 0, 6)) {
            return ARGUMENT;
        }
        if (what < 6) {
            return "" + sum(club)[what];
        }
        int rank = 0;
        for (int other = 0; other < 8; other++) {
            rank += isAhead(other, club) ? 1 : 0;
        }
        return "" + rank;
    }

    /** Matches, won, even, what it has, made, let. */
    private int[] sum(int club) {
        int[] sum = new int[6];
        for (int[] one : entered) {
            for (int side = 0; side < 2; side++) {
                if (one[side] == club) {
                    int more = one[2 + side] - one[3 - side];
                    sum[0]++;
                    sum[1] += more > 0 ? 1 : 0;
                    sum[2] += more == 0 ? 1 : 0;
                    sum[3] += more > 0 ? 5 : more == 0 ? 3 : more >= -7 ? 1 : 0;
                    sum[4] += one[2 + side];
                    sum[5] += one[3 - side];
                }
            }
        }
        return sum;
    }

    private boolean isAhead(int club, int other) {
        int[] mine = sum(club);
        int[] its = sum(other);
        if (mine[3] != its[3]) {
            return mine[3] > its[3];
        }
        int compared = compare(mine, its);
        return compared != 0 ? compared > 0 : club < other;
    }

    private static int compare(int[] mine, int[] its) {
        int[] a = fraction(mine);
        int[] b = fraction(its);
        if (a[1] == 0 || b[1] == 0) {
            return Integer.compare(b[1] == 0 ? 0 : 1, a[1] == 0 ? 0 : 1);
        }
        return Long.compare((long) a[0] * b[1], (long) b[0] * a[1]);
    }

    private static int[] fraction(int[] sum) {
        return sum[4] == 0 && sum[5] == 0 ? new int[] {1, 1} : new int[] {sum[4], sum[5]};
    }

    // ---- the auction

    private String auction(String name, int[] a) {
        return switch (name) {
            case "right" -> right(a[0], a[1]);
            case "call" -> callUp(a[0]);
            case "bid" -> bid(a[0], a[1]);
            case "hammer" -> hammer();
            case "answer" -> answer(a[0] == 1);
            case "lot" -> lot(a[0], a[1]);
            default -> squad(a[0], a[1]);
        };
    }

    private int[] sale(int lot) {
        for (int[] one : sold) {
            if (one[0] == lot) {
                return one;
            }
        }
        return null;
    }

    private String right(int club, int lot) {
        if (!in(club, 0, 7) || !in(lot, 0, 23)) {
            return INDEX;
        }
        if (called == lot || sale(lot) != null) {
            return STATE;
        }
        int had = rights[lot];
        rights[lot] = club;
        return "" + had;
    }

    private static int base(int lot) {
        return new int[] {50, 30, 10}[lot % 3];
    }

    private String callUp(int lot) {
        if (!in(lot, 0, 23)) {
            return INDEX;
        }
        if (called != -1 || sale(lot) != null) {
            return STATE;
        }
        called = lot;
        bids.clear();
        return "" + base(lot);
    }

    /** The purse, how many lots, how many foreign. */
    private int[] holds(int club) {
        int[] holds = {1000, 0, 0};
        for (int[] one : sold) {
            if (one[1] == club) {
                holds[0] -= one[2];
                holds[1]++;
                holds[2] += one[0] % 4 == 0 ? 1 : 0;
            }
        }
        return holds;
    }

    private boolean canBid(int club, int amount) {
        int[] holds = holds(club);
        return amount <= holds[0] && holds[1] + 1 <= 6 && (called % 4 != 0 || holds[2] + 1 <= 2);
    }

    private int highest() {
        return bids.isEmpty() ? -1 : bids.get(bids.size() - 1)[1];
    }

    private String bid(int club, int amount) {
        if (!in(club, 0, 7)) {
            return INDEX;
        }
        if (!in(amount, 1, 1000)) {
            return ARGUMENT;
        }
        if (called == -1 || isAsked || amount < base(called) || !bids.isEmpty() && amount - highest() < 5
                || !canBid(club, amount)) {
            return STATE;
        }
        bids.add(new int[] {club, amount});
        return "" + bids.size();
    }

    private String sell(int club) {
        sold.add(new int[] {called, club, highest()});
        called = -1;
        isAsked = false;
        return "" + club;
    }

    private String hammer() {
        if (called == -1 || isAsked) {
            return STATE;
        }
        if (bids.isEmpty()) {
            called = -1;
            return "-1";
        }
        int bidder = bids.get(bids.size() - 1)[0];
        int asked = rights[called];
        if (asked != -1 && asked != bidder && canBid(asked, highest())) {
            isAsked = true;
            return "-1";
        }
        return sell(bidder);
    }

    private String answer(boolean isTaken) {
        if (!isAsked) {
            return STATE;
        }
        int club = isTaken ? rights[called] : bids.get(bids.size() - 1)[0];
        rights[called] = -1;
        return sell(club);
    }

    private String lot(int lot, int what) {
        if (!in(lot, 0, 23)) {
            return INDEX;
        }
        if (!in(what, 0, 3)) {
            return ARGUMENT;
        }
        int[] sale = sale(lot);
        return "" + switch (what) {
            case 2 -> rights[lot];
            case 3 -> lot == called ? highest() : -1;
            default -> sale == null ? -1 : sale[1 + what];
        };
    }

    private String squad(int club, int what) {
        if (!in(club, 0, 7)) {
            return INDEX;
        }
        return in(what, 0, 2) ? "" + holds(club)[what] : ARGUMENT;
    }
}
