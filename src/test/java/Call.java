import java.util.Arrays;

/** One call of the face, by its name; a boolean is told as 1 or 0. */
record Call(String name, int... args) {
    int on(Raidhall x) {
        return switch (name) {
            case "begin" -> x.begin(args[0], args[1], args[2]);
            case "raid" -> x.raid(args[0]);
            case "step" -> x.step(args[0], args[1], args[2]);
            case "card" -> x.card(args[0], args[1], args[2]);
            case "change" -> x.change(args[0], args[1], args[2]);
            case "review" -> x.review(args[0], args[1], args[2], args[3], args[4]);
            case "wouldFall" -> x.wouldFall(args[0], args[1], args[2], args[3]);
            case "takeBack" -> x.takeBack(args[0]);
            case "enter" -> x.enter();
            case "type" -> x.type(args[0]);
            case "clear" -> x.clear();
            case "fault" -> x.fault();
            case "run" -> x.run();
            case "hammer" -> x.hammer();
            case "answer" -> x.answer(args[0] == 1);
            default -> asks(x);
        };
    }

    private int asks(Raidhall x) {
        return switch (name) {
            case "player" -> x.player(args[0], args[1]);
            case "out" -> x.out(args[0], args[1]);
            case "next" -> x.next(args[0]);
            case "points" -> x.points(args[0]);
            case "match" -> x.match(args[0]);
            case "hasReview" -> x.hasReview(args[0]) ? 1 : 0;
            case "matAfter" -> x.matAfter(args[0], args[1]);
            case "matAnew" -> x.matAnew(args[0], args[1]);
            case "pointsAfter" -> x.pointsAfter(args[0], args[1]);
            case "raidPoints" -> x.raidPoints(args[0], args[1]);
            case "club" -> x.club(args[0], args[1]);
            case "right" -> x.right(args[0], args[1]);
            case "call" -> x.call(args[0]);
            case "bid" -> x.bid(args[0], args[1]);
            case "lot" -> x.lot(args[0], args[1]);
            case "squad" -> x.squad(args[0], args[1]);
            default -> throw new AssertionError("no such call: " + name);
        };
    }

    /** The answer, or the exception's name. */
    String outcome(Raidhall x) {
        try {
            return Integer.toString(on(x));
        } catch (RuntimeException e) {
            return e.getClass().getName();
        }
    }

    @Override
    public String toString() {
        String told = Arrays.toString(args);
        return name + "(" + told.substring(1, told.length() - 1) + ")";
    }
}
