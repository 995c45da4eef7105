// Promises 1 to 15 one by one: ordinary inputs, the edges that the document names, wrong inputs.
public final class PromisesTest {
    private static final int BAD = -100;
    private static final int[] NOT_A_PLACE_OF_FIVE = {-1, 5, 6, 32, Integer.MIN_VALUE, Integer.MAX_VALUE};
    private static final int[] NOT_A_BIT = {-1, 2, 3, Integer.MIN_VALUE, Integer.MAX_VALUE};

    private static int wrong = 0;

    private static void due(int promise, String call, long got, long want) {
        if (got != want) {
            wrong++;
            System.out.println("promise " + promise + ": " + call + " answered " + got + ", due is " + want);
        }
    }

    private static void due(int promise, String call, boolean got, boolean want) {
        due(promise, call, got ? 1 : 0, want ? 1 : 0);
    }

    private static void bothMoves(MeanPayoffGame x, int p, int q, int w) {
        due(4, "move(" + p + ", 0, " + q + ", " + w + ")", x.move(p, 0, q, w), 0);
        due(4, "move(" + p + ", 1, " + q + ", " + w + ")", x.move(p, 1, q, w), 0);
    }

    /** One cycle through all places, without a choice anywhere. */
    private static MeanPayoffGame ring(int... weights) {
        MeanPayoffGame x = new MeanPayoffGame(weights.length);
        for (int p = 0; p < weights.length; p++) {
            bothMoves(x, p, (p + 1) % weights.length, weights[p]);
        }
        return x;
    }

    /** All places are MIN's; only who owns p and all after it gets from p to the loop of weight 3. */
    private static MeanPayoffGame ladder(int n) {
        MeanPayoffGame x = new MeanPayoffGame(n);
        for (int p = 0; p < n; p++) {
            x.owner(p, 0);
            x.move(p, 0, 0, 0);
            x.move(p, 1, p + 1 < n ? p + 1 : p, p + 1 < n ? 0 : 3);
        }
        return x;
    }

    private static int ownerOf(MeanPayoffGame x, int p) {
        int before = x.owner(p, 1);
        x.owner(p, before);
        return before;
    }

    private static String state(MeanPayoffGame x) {
        StringBuilder s = new StringBuilder();
        for (int p = 0; p < x.places(); p++) {
            s.append(ownerOf(x, p)).append(':');
            for (int m = 0; m < 2; m++) {
                s.append(x.target(p, m)).append('/').append(x.weight(p, m)).append(' ');
            }
        }
        return s.toString();
    }

    private static void unchanged(int promise, String after, MeanPayoffGame x, String before) {
        String now = state(x);
        if (!now.equals(before)) {
            wrong++;
            System.out.println("promise " + promise + ": " + after + " changed " + before + "to " + now);
        }
    }

    private static void newObject() {
        int[][] sizes = {{Integer.MIN_VALUE, 1}, {-1, 1}, {0, 1}, {1, 1}, {2, 2}, {3, 3}, {4, 4}, {5, 5}, {6, 5},
            {Integer.MAX_VALUE, 5}};
        for (int[] size : sizes) {
            MeanPayoffGame x = new MeanPayoffGame(size[0]);
            due(2, "places() after new(" + size[0] + ")", x.places(), size[1]);
            due(2, "places() again", x.places(), size[1]);
            for (int p = 0; p < size[1]; p++) {
                due(1, "owner of " + p, x.owner(p, 0), 1 - p % 2);
                x.owner(p, 1 - p % 2);
                for (int m = 0; m < 2; m++) {
                    due(1, "target(" + p + ", " + m + ")", x.target(p, m), p);
                    due(1, "weight(" + p + ", " + m + ")", x.weight(p, m), 0);
                }
                due(1, "numerator(" + p + ")", x.numerator(p), 0);
                due(1, "denominator(" + p + ")", x.denominator(p), 1);
            }
            due(1, "target(N, 0)", x.target(size[1], 0), BAD);
        }
        MeanPayoffGame one = new MeanPayoffGame(2);
        MeanPayoffGame other = new MeanPayoffGame(2);
        one.move(0, 0, 1, 3);
        one.owner(1, 1);
        due(1, "target of another object", other.target(0, 0), 0);
        due(1, "owner of another object", other.owner(1, 0), 0);
    }

    private static void owner() {
        MeanPayoffGame x = new MeanPayoffGame(5);
        due(3, "owner(0, 0)", x.owner(0, 0), 1);
        due(3, "owner(0, 0) again", x.owner(0, 0), 0);
        due(3, "owner(0, 1)", x.owner(0, 1), 0);
        due(3, "owner(0, 1) again", x.owner(0, 1), 1);
        due(3, "owner(4, 0)", x.owner(4, 0), 1);
        due(3, "owner(3, 1)", x.owner(3, 1), 0);
        due(3, "owner(2, 1), not touched before", x.owner(2, 1), 1);
        due(3, "owner(1, 0), not touched before", x.owner(1, 0), 0);
        String before = state(x);
        for (int p : NOT_A_PLACE_OF_FIVE) {
            due(3, "owner(" + p + ", 0)", x.owner(p, 0), BAD);
            due(3, "owner(" + p + ", 1)", x.owner(p, 1), BAD);
        }
        for (int player : NOT_A_BIT) {
            for (int p = 0; p < 5; p++) {
                due(3, "owner(" + p + ", " + player + ")", x.owner(p, player), BAD);
            }
        }
        unchanged(3, "a refused owner", x, before);

        MeanPayoffGame y = new MeanPayoffGame(3);
        due(3, "owner(3, 1) of 3 places", y.owner(3, 1), BAD);
        y.move(2, 0, 2, 2);
        due(3, "value for MAX", y.sixtieths(2), 120);
        y.owner(2, 0);
        due(3, "value for MIN", y.sixtieths(2), 0);
    }

    private static void move() {
        MeanPayoffGame x = new MeanPayoffGame(5);
        due(4, "move(0, 0, 4, -3)", x.move(0, 0, 4, -3), 0);
        due(4, "move(0, 1, 3, 3)", x.move(0, 1, 3, 3), 0);
        due(4, "move(4, 1, 0, 1)", x.move(4, 1, 0, 1), 0);
        due(5, "target(0, 0)", x.target(0, 0), 4);
        due(6, "weight(0, 0)", x.weight(0, 0), -3);
        due(5, "target(0, 1)", x.target(0, 1), 3);
        due(6, "weight(0, 1)", x.weight(0, 1), 3);
        due(5, "target(4, 1)", x.target(4, 1), 0);
        due(6, "weight(4, 1)", x.weight(4, 1), 1);
        due(5, "target(4, 0)", x.target(4, 0), 4);
        due(6, "weight(4, 0)", x.weight(4, 0), 0);
        due(5, "target(1, 0)", x.target(1, 0), 1);
        String before = state(x);
        for (int p : NOT_A_PLACE_OF_FIVE) {
            due(4, "move(" + p + ", 0, 1, 1)", x.move(p, 0, 1, 1), BAD);
            due(4, "move(1, 0, " + p + ", 1)", x.move(1, 0, p, 1), BAD);
            for (int m = 0; m < 2; m++) {
                due(5, "target(" + p + ", " + m + ")", x.target(p, m), BAD);
                due(6, "weight(" + p + ", " + m + ")", x.weight(p, m), BAD);
            }
        }
        for (int m : NOT_A_BIT) {
            for (int p = 0; p < 5; p++) {
                due(4, "move(" + p + ", " + m + ", 1, 1)", x.move(p, m, 1, 1), BAD);
                due(5, "target(" + p + ", " + m + ")", x.target(p, m), BAD);
                due(6, "weight(" + p + ", " + m + ")", x.weight(p, m), BAD);
            }
        }
        for (int w : new int[] {-4, 4, Integer.MIN_VALUE, Integer.MAX_VALUE}) {
            due(4, "move(1, 0, 2, " + w + ")", x.move(1, 0, 2, w), BAD);
        }
        unchanged(4, "a refused move", x, before);

        MeanPayoffGame y = new MeanPayoffGame(2);
        due(4, "move(2, 0, 0, 0) of 2 places", y.move(2, 0, 0, 0), BAD);
        due(4, "move(0, 0, 2, 0) of 2 places", y.move(0, 0, 2, 0), BAD);
        due(5, "target(2, 0) of 2 places", y.target(2, 0), BAD);
        due(6, "weight(2, 0) of 2 places", y.weight(2, 0), BAD);
    }

    private static void ringValue(int numerator, int denominator, int... weights) {
        MeanPayoffGame x = ring(weights);
        for (int p = 0; p < weights.length; p++) {
            String where = "(" + p + ") on the ring " + java.util.Arrays.toString(weights);
            due(7, "numerator" + where, x.numerator(p), numerator);
            due(8, "denominator" + where, x.denominator(p), denominator);
            due(10, "sixtieths" + where, x.sixtieths(p), 60 * numerator / denominator);
        }
    }

    private static void values() {
        ringValue(3, 1, 3);
        ringValue(-3, 1, -3);
        ringValue(1, 2, 3, -2);
        ringValue(2, 1, 1, 3);
        ringValue(0, 1, 3, -3);
        ringValue(-5, 3, -3, -3, 1);
        ringValue(4, 3, 3, 3, -2);
        ringValue(1, 2, 1, 1, 0, 0);
        ringValue(-1, 2, -1, 0, -1, 0);
        ringValue(-3, 4, -3, 3, -3, 0);
        ringValue(11, 4, 3, 3, 3, 2);
        ringValue(1, 5, 3, -2, 1, -3, 2);
        ringValue(-14, 5, -3, -3, -3, -3, -2);
        ringValue(3, 1, 3, 3, 3, 3, 3);
        ringValue(0, 1, 3, -3, 2, -2, 0);

        // The weights on the way to the cycle do not count.
        MeanPayoffGame tail = new MeanPayoffGame(4);
        bothMoves(tail, 0, 1, 3);
        bothMoves(tail, 1, 2, 3);
        bothMoves(tail, 2, 3, -1);
        bothMoves(tail, 3, 2, 0);
        due(7, "numerator(0) before the cycle", tail.numerator(0), -1);
        due(8, "denominator(0) before the cycle", tail.denominator(0), 2);
        due(10, "sixtieths(1) before the cycle", tail.sixtieths(1), -30);

        // MAX at 0 may stay with 1 or go to 1, where MIN stays with -2 or comes back with 3.
        MeanPayoffGame x = new MeanPayoffGame(2);
        x.move(0, 0, 0, 1);
        x.move(0, 1, 1, 3);
        x.move(1, 0, 1, -2);
        x.move(1, 1, 0, 3);
        due(7, "numerator(0), MAX stays", x.numerator(0), 1);
        due(7, "numerator(1), MIN stays", x.numerator(1), -2);
        x.move(1, 0, 0, 0);
        due(7, "numerator(0), MIN must come back", x.numerator(0), 3);
        due(8, "denominator(0), MIN must come back", x.denominator(0), 2);
        due(7, "numerator(1), MIN must come back", x.numerator(1), 3);

        MeanPayoffGame y = new MeanPayoffGame(5);
        for (int p : NOT_A_PLACE_OF_FIVE) {
            due(7, "numerator(" + p + ")", y.numerator(p), BAD);
            due(8, "denominator(" + p + ")", y.denominator(p), BAD);
            due(10, "sixtieths(" + p + ")", y.sixtieths(p), -6000);
        }
        due(7, "numerator(1) of 1 place", ring(3).numerator(1), BAD);
        due(8, "denominator(1) of 1 place", ring(3).denominator(1), BAD);
        due(10, "sixtieths(1) of 1 place", ring(3).sixtieths(1), -6000);
    }

    private static void atLeast() {
        MeanPayoffGame x = ring(3, -2, 1, -3, 2);
        due(9, "atLeast(0, 1, 5)", x.atLeast(0, 1, 5), true);
        due(9, "atLeast(4, 4, 20)", x.atLeast(4, 4, 20), true);
        due(9, "atLeast(0, 3, 16)", x.atLeast(0, 3, 16), true);
        due(9, "atLeast(0, 4, 19)", x.atLeast(0, 4, 19), false);
        due(9, "atLeast(0, 5, 20)", x.atLeast(0, 5, 20), false);
        due(9, "atLeast(0, 0, 1)", x.atLeast(0, 0, 1), true);
        due(9, "atLeast(0, -100, 1)", x.atLeast(0, -100, 1), true);
        due(9, "atLeast(0, 100, 20)", x.atLeast(0, 100, 20), false);
        MeanPayoffGame y = ring(-3, 2);
        due(9, "atLeast(0, -1, 2)", y.atLeast(0, -1, 2), true);
        due(9, "atLeast(0, -9, 19)", y.atLeast(0, -9, 19), false);
        due(9, "atLeast(0, -10, 19)", y.atLeast(0, -10, 19), true);
        due(9, "atLeast(0, 0, 20)", y.atLeast(0, 0, 20), false);
        due(9, "atLeast(2, -100, 1) of 2 places", y.atLeast(2, -100, 1), false);
        for (int p : NOT_A_PLACE_OF_FIVE) {
            due(9, "atLeast(" + p + ", -100, 1)", x.atLeast(p, -100, 1), false);
        }
        for (int a : new int[] {-101, 101, Integer.MIN_VALUE, Integer.MAX_VALUE}) {
            due(9, "atLeast(0, " + a + ", 20)", x.atLeast(0, a, 20), false);
            due(12, "winning(" + a + ", 20)", x.winning(a, 20), 0);
        }
        for (int b : new int[] {0, 21, -1, Integer.MIN_VALUE, Integer.MAX_VALUE}) {
            due(9, "atLeast(0, -100, " + b + ")", x.atLeast(0, -100, b), false);
            due(9, "atLeast(0, 0, " + b + ")", x.atLeast(0, 0, b), false);
            due(12, "winning(-100, " + b + ")", x.winning(-100, b), 0);
            due(12, "winning(0, " + b + ")", x.winning(0, b), 0);
        }
    }

    private static void winning() {
        MeanPayoffGame x = new MeanPayoffGame(5);
        for (int p = 0; p < 5; p++) {
            bothMoves(x, p, p, p - 2);
        }
        due(12, "winning(-100, 1)", x.winning(-100, 1), 5);
        due(12, "winning(-2, 1)", x.winning(-2, 1), 5);
        due(12, "winning(-39, 20)", x.winning(-39, 20), 4);
        due(12, "winning(0, 1)", x.winning(0, 1), 3);
        due(12, "winning(1, 20)", x.winning(1, 20), 2);
        due(12, "winning(40, 20)", x.winning(40, 20), 1);
        due(12, "winning(41, 20)", x.winning(41, 20), 0);
        due(12, "winning(100, 1)", x.winning(100, 1), 0);
        due(12, "winning(-100, 20) of 3 places", new MeanPayoffGame(3).winning(-100, 20), 3);
    }

    private static void keeps() {
        MeanPayoffGame x = new MeanPayoffGame(5);
        for (int p = 0; p < 5; p++) {
            due(11, "keeps(" + p + ", 0), equal moves", x.keeps(p, 0), true);
            due(11, "keeps(" + p + ", 1), equal moves", x.keeps(p, 1), true);
        }
        x.move(0, 1, 0, 2);
        due(11, "keeps(0, 0), MAX has better", x.keeps(0, 0), false);
        due(11, "keeps(0, 1), MAX has worse", x.keeps(0, 1), true);
        x.move(1, 1, 1, 2);
        due(11, "keeps(1, 0), MIN has worse", x.keeps(1, 0), true);
        due(11, "keeps(1, 1), MIN has better", x.keeps(1, 1), false);
        // A weight that is passed only once makes no difference.
        x.move(2, 0, 0, -3);
        x.move(2, 1, 0, 3);
        due(11, "keeps(2, 0), passed once", x.keeps(2, 0), true);
        due(11, "keeps(2, 1), passed once", x.keeps(2, 1), true);
        String before = state(x);
        for (int p : NOT_A_PLACE_OF_FIVE) {
            due(11, "keeps(" + p + ", 0)", x.keeps(p, 0), false);
            due(11, "keeps(" + p + ", 1)", x.keeps(p, 1), false);
        }
        for (int m : NOT_A_BIT) {
            for (int p = 0; p < 5; p++) {
                due(11, "keeps(" + p + ", " + m + ")", x.keeps(p, m), false);
            }
        }
        for (int p = 0; p < 5; p++) {
            x.keeps(p, 0);
            x.keeps(p, 1);
        }
        unchanged(11, "keeps", x, before);
        due(11, "keeps(2, 0) of 2 places", new MeanPayoffGame(2).keeps(2, 0), false);

        // Going on in the wish to leave later is as good at one place, not at both at once.
        MeanPayoffGame y = new MeanPayoffGame(3);
        y.owner(1, 1);
        y.move(0, 0, 1, 0);
        y.move(0, 1, 2, 0);
        y.move(1, 0, 0, 0);
        y.move(1, 1, 2, 0);
        bothMoves(y, 2, 2, 1);
        due(11, "keeps(0, 0), the other place leaves", y.keeps(0, 0), true);
        due(11, "keeps(0, 1), leaves", y.keeps(0, 1), true);
        due(11, "keeps(1, 0), the other place leaves", y.keeps(1, 0), true);
        bothMoves(y, 1, 0, 0);
        due(11, "keeps(0, 0), nobody leaves", y.keeps(0, 0), false);
    }

    private static void gifts() {
        for (int n = 1; n <= 5; n++) {
            MeanPayoffGame x = ladder(n);
            String before = state(x);
            for (int p = 0; p < n; p++) {
                due(13, "gifts(" + p + ") on a ladder of " + n, x.gifts(p), n - p);
            }
            unchanged(13, "gifts", x, before);
            due(13, "gifts(" + n + ") of " + n + " places", x.gifts(n), BAD);
            for (int p : NOT_A_PLACE_OF_FIVE) {
                due(13, "gifts(" + p + ")", x.gifts(p), BAD);
            }
            // With one rung given already, one gift less is needed.
            x.owner(n - 1, 1);
            for (int p = 0; p < n - 1; p++) {
                due(13, "gifts(" + p + ") with the top given, of " + n, x.gifts(p), n - 1 - p);
            }
            due(13, "gifts(top) already given", x.gifts(n - 1), n + 1);
            MeanPayoffGame still = new MeanPayoffGame(n);
            due(13, "gifts(0) where no weight is greater", still.gifts(0), n + 1);
        }
        // Place 0 is out of reach of 1, so that giving it does not help.
        MeanPayoffGame y = new MeanPayoffGame(2);
        y.owner(0, 0);
        y.move(0, 0, 0, 3);
        due(13, "gifts(0)", y.gifts(0), 1);
        due(13, "gifts(1)", y.gifts(1), 3);
    }

    private static void refusedShift(MeanPayoffGame x, int w) {
        String before = state(x);
        due(14, "shift(" + w + ") of " + before, x.shift(w), BAD);
        unchanged(14, "shift(" + w + ")", x, before);
    }

    private static void shift() {
        for (int w : new int[] {-7, 7, Integer.MIN_VALUE, Integer.MAX_VALUE, 4, -4, 6, -6}) {
            refusedShift(new MeanPayoffGame(5), w);
        }
        MeanPayoffGame x = new MeanPayoffGame(5);
        due(14, "shift(3)", x.shift(3), 0);
        due(14, "shift(0) at 3", x.shift(0), 0);
        due(14, "shift(-6) at 3", x.shift(-6), 0);
        due(14, "shift(7) at -3", x.shift(7), BAD);
        for (int p = 0; p < 5; p++) {
            due(14, "weight(" + p + ", 0)", x.weight(p, 0), -3);
            due(14, "weight(" + p + ", 1)", x.weight(p, 1), -3);
            due(14, "target(" + p + ", 1)", x.target(p, 1), p);
        }
        due(14, "shift(6) at -3", x.shift(6), 0);
        due(14, "sixtieths(3)", x.sixtieths(3), 180);
        // One weight in the way is enough, wherever it stands.
        for (int i = 0; i < 10; i++) {
            MeanPayoffGame one = new MeanPayoffGame(5);
            one.move(i / 2, i % 2, i / 2, 3);
            refusedShift(one, 1);
            one.move(i / 2, i % 2, i / 2, -3);
            refusedShift(one, -1);
        }
        // Moves of places that the object does not have are in nobody's way.
        MeanPayoffGame y = ring(-3);
        due(14, "shift(6) of 1 place", y.shift(6), 0);
        due(14, "sixtieths(0)", y.sixtieths(0), 180);
        due(14, "shift(-6) of 1 place", y.shift(-6), 0);
    }

    private static void mirror() {
        MeanPayoffGame x = new MeanPayoffGame(5);
        int[] w = {3, -3, 1, 0, -2, 2, -1, 0, 2, -3};
        for (int i = 0; i < 10; i++) {
            x.move(i / 2, i % 2, (i * 3 + 1) % 5, w[i]);
        }
        String before = state(x);
        int[] values = new int[5];
        for (int p = 0; p < 5; p++) {
            values[p] = x.sixtieths(p);
        }
        x.mirror();
        for (int p = 0; p < 5; p++) {
            due(15, "owner of " + p, ownerOf(x, p), p % 2);
            due(15, "sixtieths(" + p + ")", x.sixtieths(p), -values[p]);
        }
        for (int i = 0; i < 10; i++) {
            due(15, "weight(" + i / 2 + ", " + i % 2 + ")", x.weight(i / 2, i % 2), -w[i]);
            due(15, "target(" + i / 2 + ", " + i % 2 + ")", x.target(i / 2, i % 2), (i * 3 + 1) % 5);
        }
        x.mirror();
        unchanged(15, "mirror twice", x, before);

        MeanPayoffGame y = new MeanPayoffGame(2);
        y.move(0, 0, 0, 1);
        y.mirror();
        due(15, "sixtieths(0), MIN's now", y.sixtieths(0), -60);
        due(15, "gifts(0), MIN's now", y.gifts(0), 1);
        due(15, "gifts(1), MAX's now", y.gifts(1), 3);
    }

    public static void main(String[] args) {
        newObject();
        owner();
        move();
        values();
        atLeast();
        winning();
        keeps();
        gifts();
        shift();
        mirror();
        System.out.println(wrong == 0 ? "all answers are as due" : wrong + " answers are not as due");
        if (wrong != 0) System.exit(1);
    }
}
