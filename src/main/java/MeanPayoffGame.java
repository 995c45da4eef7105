/**
 * A game on a graph that goes on for ever: one player wants the average of the weights on the way
 * to be great, the other wants it to be small.
 *
 * A set of places is held as an int in which bit p stands for place p. A choice of one move at
 * every place is held in the same way: bit p is the move that is taken at place p.
 */
public final class MeanPayoffGame {
    public static final int BAD_ARG = -100;
    public static final int MAX = 1;
    public static final int MIN = 0;

    private static final int MOST_PLACES = 5;
    private static final int MOST_MOVES = 10;
    private static final int GREATEST_WEIGHT = 3;
    private static final int GREATEST_SHIFT = 6;
    private static final int GREATEST_BOUND = 100;
    private static final int GREATEST_DIVISOR = 20;
    private static final int EVEN_PLACES = 0b10101;

    // 1, 2, 3, 4 and 5 all divide 60, so every mean is a whole number of sixtieths.
    private static final int UNIT = 60;
    private static final int ABOVE_ALL_MEANS = UNIT * GREATEST_WEIGHT + 1;

    private final int[] targets = new int[MOST_MOVES];
    private final int[] weights = new int[MOST_MOVES];
    private final int size;
    private int maxPlaces;

    public MeanPayoffGame(int places) {
        size = places < 1 ? 1 : places > MOST_PLACES ? MOST_PLACES : places;
        maxPlaces = EVEN_PLACES & ((1 << size) - 1);
        for (int p = 0; p < size; p++) {
            targets[2 * p] = p;
            targets[2 * p + 1] = p;
        }
    }

    public int places() {
        return size;
    }

    public int owner(int p, int player) {
        if (!isPlace(p) || (player != MIN && player != MAX)) {
            return BAD_ARG;
        }
        int before = (maxPlaces >> p) & 1;
        maxPlaces = (maxPlaces & ~(1 << p)) | (player << p);
        return before;
    }

    public int move(int p, int m, int q, int w) {
        if (!isMove(p, m) || !isPlace(q) || !isWithin(w, GREATEST_WEIGHT)) {
            return BAD_ARG;
        }
        targets[2 * p + m] = q;
        weights[2 * p + m] = w;
        return 0;
    }

    public int target(int p, int m) {
        return isMove(p, m) ? targets[2 * p + m] : BAD_ARG;
    }

    public int weight(int p, int m) {
        return isMove(p, m) ? weights[2 * p + m] : BAD_ARG;
    }

    public int numerator(int p) {
        if (!isPlace(p)) {
            return BAD_ARG;
        }
        int value = valueOf(p, maxPlaces);
        return value * lowestDenominator(value) / UNIT;
    }

    public int denominator(int p) {
        if (!isPlace(p)) {
            return BAD_ARG;
        }
        int value = valueOf(p, maxPlaces);
        return lowestDenominator(value);
    }

    public boolean atLeast(int p, int a, int b) {
        return isPlace(p) && isFraction(a, b) && reaches(p, a, b);
    }

    public int sixtieths(int p) {
        // No value needs rounding: each is a whole number of sixtieths.
        return isPlace(p) ? valueOf(p, maxPlaces) : BAD_ARG * UNIT;
    }

    public boolean keeps(int p, int m) {
        if (!isMove(p, m)) {
            return false;
        }
        // Two equal moves leave no choice, so the place may as well be bound to the one.
        int withThisAlone = valueBound(p, maxPlaces, 1 << p, m << p);
        return withThisAlone == valueOf(p, maxPlaces);
    }

    public int winning(int a, int b) {
        if (!isFraction(a, b)) {
            return 0;
        }
        int count = 0;
        for (int p = 0; p < size; p++) {
            if (reaches(p, a, b)) {
                count++;
            }
        }
        return count;
    }

    public int gifts(int p) {
        if (!isPlace(p)) {
            return BAD_ARG;
        }
        int value = valueOf(p, maxPlaces);
        int least = size + 1;
        for (int given = 1; given < (1 << size); given++) {
            if ((given & maxPlaces) == 0) {
                int number = countPlaces(given);
                if (number < least && valueOf(p, maxPlaces | given) > value) {
                    least = number;
                }
            }
        }
        return least;
    }

    public int shift(int w) {
        if (!isWithin(w, GREATEST_SHIFT)) {
            return BAD_ARG;
        }
        for (int i = 0; i < 2 * size; i++) {
            if (!isWithin(weights[i] + w, GREATEST_WEIGHT)) {
                return BAD_ARG;
            }
        }
        for (int i = 0; i < 2 * size; i++) {
            weights[i] += w;
        }
        return 0;
    }

    public void mirror() {
        maxPlaces ^= (1 << size) - 1;
        for (int i = 0; i < 2 * size; i++) {
            weights[i] = -weights[i];
        }
    }

    private boolean isPlace(int p) {
        return p >= 0 && p < size;
    }

    private boolean isMove(int p, int m) {
        return isPlace(p) && (m == 0 || m == 1);
    }

    private static boolean isWithin(int number, int greatest) {
        return number >= -greatest && number <= greatest;
    }

    private static boolean isFraction(int a, int b) {
        return isWithin(a, GREATEST_BOUND) && b >= 1 && b <= GREATEST_DIVISOR;
    }

    private boolean reaches(int p, int a, int b) {
        return valueOf(p, maxPlaces) * b >= a * UNIT;
    }

    private int countPlaces(int set) {
        int count = 0;
        for (int p = 0; p < size; p++) {
            count += (set >> p) & 1;
        }
        return count;
    }

    private int lowestDenominator(int value) {
        int d = 1;
        while (d < size && value * d % UNIT != 0) {
            d++;
        }
        return d;
    }

    /** The value of place p in sixtieths if the places of the set owned are MAX's. */
    private int valueOf(int p, int owned) {
        return valueBound(p, owned, 0, 0);
    }

    /** The same, but each place of the set bound takes its move in choice, whoever owns it. */
    private int valueBound(int p, int owned, int bound, int choice) {
        int best = -ABOVE_ALL_MEANS;
        for (int maxMoves = 0; maxMoves < (1 << size); maxMoves++) {
            if ((maxMoves & ~owned) == 0) {
                int worst = worstFor(p, owned, maxMoves, bound, choice);
                if (worst > best) {
                    best = worst;
                }
            }
        }
        return best;
    }

    /** The least mean from place p, in sixtieths, that MIN can reach against maxMoves. */
    private int worstFor(int p, int owned, int maxMoves, int bound, int choice) {
        int worst = ABOVE_ALL_MEANS;
        for (int minMoves = 0; minMoves < (1 << size); minMoves++) {
            if ((minMoves & owned) == 0) {
                int mean = meanFrom(p, ((maxMoves | minMoves) & ~bound) | choice);
                if (mean < worst) {
                    worst = mean;
                }
            }
        }
        return worst;
    }

    /** The mean of the way from place p, in sixtieths, with the moves of choice. */
    private int meanFrom(int p, int choice) {
        int at = p;
        // After as many moves as there are places, the way is on its cycle for certain.
        for (int i = 0; i < size; i++) {
            at = targets[2 * at + ((choice >> at) & 1)];
        }
        // Sixty moves go round the cycle a whole number of times, whatever its length is,
        // so their sum is sixty times the mean.
        int sum = 0;
        for (int i = 0; i < UNIT; i++) {
            int index = 2 * at + ((choice >> at) & 1);
            sum += weights[index];
            at = targets[index];
        }
        return sum;
    }
}
