/** Numbers that look drawn, always the same ones from a seed. */
final class Dice {
    private long seed;

    Dice(long seed) {
        this.seed = seed;
    }

    int below(int bound) {
        seed = seed * 6364136223846793005L + 1442695040888963407L;
        return (int) ((seed >>> 33) % bound);
    }

    /** So often in a hundred. */
    boolean isIn(int hundredths) {
        return below(100) < hundredths;
    }

    int oneOf(int... numbers) {
        return numbers[below(numbers.length)];
    }

    /** Mostly a number in range, at times one beside it. */
    int about(int bound) {
        return switch (below(60)) {
            case 0 -> -1;
            case 1 -> bound;
            case 2 -> Integer.MAX_VALUE;
            case 3 -> Integer.MIN_VALUE;
            default -> below(bound);
        };
    }
}
