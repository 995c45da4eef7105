import java.util.ArrayList;
import java.util.Arrays;
import java.util.HashMap;
import java.util.List;
import java.util.Map;

// The sentences of the document that name a boundary case, each in a method of its own: the last
// argument that is allowed and the first one that is refused on either side, the smallest and the
// greatest int, and after each refused call that nothing has changed. All for every N from 1 to 5,
// and the refused calls in several states of the object each.
public final class BoundariesTest {
    private static final int BAD = -100;
    private static final int LEAST = Integer.MIN_VALUE;
    private static final int GREATEST = Integer.MAX_VALUE;

    private static final Map<String, String> KNOWN = new HashMap<>();

    private static int wrong = 0;

    private interface Call {
        long on(MeanPayoffGame x);
    }

    /** What an object should hold, in plain arrays; move m of place p has the index 2 * p + m. */
    private static final class State {
        final int n;
        final int[] owner;
        final int[] target;
        final int[] weight;

        State(int n) {
            this.n = n;
            owner = new int[n];
            target = new int[2 * n];
            weight = new int[2 * n];
            for (int i = 0; i < 2 * n; i++) {
                owner[i / 2] = 1 - i / 2 % 2;
                target[i] = i / 2;
            }
        }

        State owners(int player) {
            Arrays.fill(owner, player);
            return this;
        }

        State weights(int w) {
            Arrays.fill(weight, w);
            return this;
        }

        /** Different targets and weights -3 to 3 everywhere, the owners from place to place. */
        State mixed() {
            for (int i = 0; i < 2 * n; i++) {
                owner[i / 2] = i / 2 % 2;
                target[i] = (i * 3 + 1) % n;
                weight[i] = (i * 5 + 6) % 7 - 3;
            }
            return this;
        }

        MeanPayoffGame make() {
            MeanPayoffGame x = new MeanPayoffGame(n);
            for (int i = 0; i < 2 * n; i++) {
                x.owner(i / 2, owner[i / 2]);
                x.move(i / 2, i % 2, target[i], weight[i]);
            }
            return x;
        }

        @Override
        public String toString() {
            return "N " + n + ", owners " + Arrays.toString(owner) + ", targets " + Arrays.toString(target)
                + ", weights " + Arrays.toString(weight);
        }
    }

    private static List<State> states(int n) {
        return List.of(new State(n), new State(n).mixed(), new State(n).owners(0).weights(3),
            new State(n).owners(1).weights(-3));
    }

    private static State read(MeanPayoffGame x) {
        State s = new State(x.places());
        for (int i = 0; i < 2 * s.n; i++) {
            s.target[i] = x.target(i / 2, i % 2);
            s.weight[i] = x.weight(i / 2, i % 2);
        }
        for (int p = 0; p < s.n; p++) {
            s.owner[p] = x.owner(p, 0);
            x.owner(p, s.owner[p]);
        }
        return s;
    }

    /** What the object answers about values; some 35 calls, of the 512 that an object is good for. */
    private static String answers(MeanPayoffGame x) {
        StringBuilder s = new StringBuilder();
        for (int p = 0; p < x.places(); p++) {
            s.append(x.numerator(p)).append('/').append(x.denominator(p)).append(' ');
            s.append(x.sixtieths(p)).append(' ').append(x.gifts(p)).append(' ');
            s.append(x.keeps(p, 0)).append(' ').append(x.keeps(p, 1)).append("; ");
        }
        return s.append(x.winning(-1, 1)).append(x.winning(0, 1)).append(x.winning(1, 1)).toString();
    }

    private static void fault(int promise, String text) {
        wrong++;
        System.out.println("promise " + promise + ": " + text);
    }

    private static void due(int promise, String name, MeanPayoffGame x, Call call, long want) {
        try {
            long got = call.on(x);
            if (got != want) {
                fault(promise, name + " answered " + got + ", due is " + want + ", at " + read(x));
            }
        } catch (RuntimeException | Error e) {
            fault(promise, name + " threw " + e);
        }
    }

    private static void holds(int promise, String name, MeanPayoffGame x, State want) {
        String now = read(x).toString();
        if (!now.equals(want.toString())) {
            fault(promise, "after " + name + " the object is " + now + ", due is " + want);
        }
    }

    private static void refused(int promise, int n, String name, Call call, long code) {
        for (State s : states(n)) {
            MeanPayoffGame x = s.make();
            String before = KNOWN.computeIfAbsent(s.toString(), unused -> answers(s.make()));
            due(promise, name, x, call, code);
            String after = answers(x);
            if (!after.equals(before)) {
                fault(promise, "after " + name + " the answers are " + after + ", due are " + before);
            }
            holds(promise, name, x, s);
        }
    }

    /** Outside of the range: next to it, far away, and where a sum, a shift or a cast wraps into it. */
    private static int[] outside(int least, int greatest) {
        List<Integer> found = new ArrayList<>(List.of(least - 1, greatest + 1, LEAST, LEAST + 1, GREATEST, GREATEST - 1));
        for (int step : new int[] {32, 256, 65536, 1 << 30, 1 << 31}) {
            found.add(least + step);
            found.add(greatest + step);
            found.add(greatest - step);
        }
        return found.stream().mapToInt(i -> i).filter(i -> i < least || i > greatest).distinct().toArray();
    }

    // Promise 1: "below 1 it becomes 1, above 5 it becomes 5".
    private static void newObject() {
        int[][] sizes = {{LEAST, 1}, {LEAST + 1, 1}, {-5, 1}, {-1, 1}, {0, 1}, {1, 1}, {2, 2}, {3, 3}, {4, 4}, {5, 5},
            {6, 5}, {7, 5}, {32, 5}, {257, 5}, {65537, 5}, {GREATEST - 1, 5}, {GREATEST, 5}};
        for (int[] size : sizes) {
            int n = size[1];
            String name = "new MeanPayoffGame(" + size[0] + ")";
            MeanPayoffGame x = null;
            try {
                x = new MeanPayoffGame(size[0]);
            } catch (RuntimeException | Error e) {
                fault(1, name + " threw " + e);
                continue;
            }
            due(1, "places() of " + name, x, MeanPayoffGame::places, n);
            holds(1, name, x, new State(n));
            due(1, "move to the last place of " + name, x, y -> y.move(n - 1, 1, n - 1, 3), 0);
            due(1, "move to the place after the last of " + name, x, y -> y.move(n - 1, 1, n, 3), BAD);
        }
    }

    // Promise 2: "N.", at the smallest and at the largest N too, and whatever has been called.
    private static void places() {
        for (int n = 1; n <= 5; n++) {
            for (State s : states(n)) {
                MeanPayoffGame x = s.make();
                due(2, "places()", x, MeanPayoffGame::places, n);
                x.mirror();
                x.shift(1);
                due(2, "places() after mirror() and shift(1)", x, MeanPayoffGame::places, n);
            }
        }
    }

    // Promise 3: "BAD_ARG if p is not 0 to N - 1 or player not 0 or 1."
    private static void owner(int n) {
        for (State s : states(n)) {
            MeanPayoffGame x = s.make();
            for (int p : new int[] {0, n - 1}) {
                for (int player : new int[] {0, 1, 1, 0}) {
                    due(3, "owner(" + p + ", " + player + ")", x, y -> y.owner(p, player), s.owner[p]);
                    s.owner[p] = player;
                    holds(3, "owner(" + p + ", " + player + ")", x, s);
                }
            }
        }
        for (int p : outside(0, n - 1)) {
            for (int player : new int[] {0, 1, p}) {
                refused(3, n, "owner(" + p + ", " + player + ")", x -> x.owner(p, player), BAD);
            }
        }
        for (int player : outside(0, 1)) {
            for (int p = 0; p < n; p++) {
                int place = p;
                refused(3, n, "owner(" + p + ", " + player + ")", x -> x.owner(place, player), BAD);
            }
        }
    }

    private static void refusedMove(int n, int p, int m, int q, int w) {
        refused(4, n, "move(" + p + ", " + m + ", " + q + ", " + w + ")", x -> x.move(p, m, q, w), BAD);
    }

    // Promise 4: "BAD_ARG if p or q is not 0 to N - 1, m not 0 or 1, or w not -3 to 3."
    private static void move(int n) {
        for (State s : states(n)) {
            MeanPayoffGame x = s.make();
            for (int corner = 0; corner < 16; corner++) {
                int p = (corner & 1) == 0 ? 0 : n - 1;
                int m = corner >> 1 & 1;
                int q = (corner & 4) == 0 ? 0 : n - 1;
                int w = (corner & 8) == 0 ? -3 : 3;
                due(4, "move(" + p + ", " + m + ", " + q + ", " + w + ")", x, y -> y.move(p, m, q, w), 0);
                s.target[2 * p + m] = q;
                s.weight[2 * p + m] = w;
                if (corner % 2 == 1) {
                    holds(4, "move(" + p + ", " + m + ", " + q + ", " + w + ")", x, s);
                }
            }
        }
        for (int p : outside(0, n - 1)) {
            for (int good : new int[] {0, n - 1}) {
                refusedMove(n, p, 0, good, 1);
                refusedMove(n, p, 1, good, 1);
                refusedMove(n, good, 0, p, 1);
                refusedMove(n, good, 1, p, 1);
            }
            refusedMove(n, p, 0, p, 1);
        }
        for (int m : outside(0, 1)) {
            refusedMove(n, 0, m, n - 1, 1);
            refusedMove(n, n - 1, m, 0, 1);
        }
        for (int w : outside(-3, 3)) {
            refusedMove(n, 0, 1, n - 1, w);
            refusedMove(n, n - 1, 0, 0, w);
        }
        refusedMove(n, LEAST, LEAST, LEAST, LEAST);
        refusedMove(n, GREATEST, GREATEST, GREATEST, GREATEST);
        refusedMove(n, -1, 2, n, 4);
    }

    // Promises 5 and 6: "BAD_ARG if there is no such place or move."
    private static void targetAndWeight(int n) {
        for (State s : states(n)) {
            MeanPayoffGame x = s.make();
            for (int i : new int[] {0, 1, 2 * n - 2, 2 * n - 1}) {
                due(5, "target(" + i / 2 + ", " + i % 2 + ")", x, y -> y.target(i / 2, i % 2), s.target[i]);
                due(6, "weight(" + i / 2 + ", " + i % 2 + ")", x, y -> y.weight(i / 2, i % 2), s.weight[i]);
            }
        }
        for (int p : outside(0, n - 1)) {
            for (int m : new int[] {0, 1, p}) {
                refused(5, n, "target(" + p + ", " + m + ")", x -> x.target(p, m), BAD);
                refused(6, n, "weight(" + p + ", " + m + ")", x -> x.weight(p, m), BAD);
            }
        }
        for (int m : outside(0, 1)) {
            for (int p = 0; p < n; p++) {
                int place = p;
                refused(5, n, "target(" + p + ", " + m + ")", x -> x.target(place, m), BAD);
                refused(6, n, "weight(" + p + ", " + m + ")", x -> x.weight(place, m), BAD);
            }
        }
    }

    /** N loops without a choice, so that the value of place p is the weight given for it. */
    private static MeanPayoffGame loops(int n, int first, int last) {
        State s = new State(n);
        Arrays.fill(s.weight, 0, 2, first);
        Arrays.fill(s.weight, 2 * n - 2, 2 * n, last);
        return s.make();
    }

    // Promises 7 and 8: "BAD_ARG if p is not 0 to N - 1."
    private static void numeratorAndDenominator(int n) {
        MeanPayoffGame x = loops(n, n == 1 ? 2 : -3, 2);
        due(7, "numerator(0)", x, y -> y.numerator(0), n == 1 ? 2 : -3);
        due(7, "numerator(N - 1)", x, y -> y.numerator(n - 1), 2);
        due(8, "denominator(0)", x, y -> y.denominator(0), 1);
        due(8, "denominator(N - 1)", x, y -> y.denominator(n - 1), 1);
        for (int p : outside(0, n - 1)) {
            refused(7, n, "numerator(" + p + ")", y -> y.numerator(p), BAD);
            refused(8, n, "denominator(" + p + ")", y -> y.denominator(p), BAD);
        }
    }

    private static void refusedAtLeast(int n, int p, int a, int b) {
        refused(9, n, "atLeast(" + p + ", " + a + ", " + b + ")", x -> x.atLeast(p, a, b) ? 1 : 0, 0);
    }

    // Promise 9: "false if p is not 0 to N - 1, a not -100 to 100 or b not 1 to 20."
    private static void atLeast(int n) {
        // The bounds are chosen so that a call which is not refused, or wraps, would answer true.
        for (int p : outside(0, n - 1)) {
            refusedAtLeast(n, p, -100, 1);
            refusedAtLeast(n, p, -100, 20);
        }
        for (int p : new int[] {0, n - 1}) {
            for (int a : outside(-100, 100)) {
                refusedAtLeast(n, p, a, 1);
                refusedAtLeast(n, p, a, 20);
            }
            for (int b : outside(1, 20)) {
                refusedAtLeast(n, p, -100, b);
                refusedAtLeast(n, p, 0, b);
                refusedAtLeast(n, p, 100, b);
            }
        }
        refusedAtLeast(n, LEAST, LEAST, LEAST);
        refusedAtLeast(n, GREATEST, GREATEST, GREATEST);
        for (int p : new int[] {0, n - 1}) {
            MeanPayoffGame high = loops(n, 3, 3);
            MeanPayoffGame low = loops(n, -3, -3);
            int[][] reached = {{-100, 1}, {-100, 20}, {-60, 20}, {-3, 1}};
            int[][] between = {{-2, 1}, {-59, 20}, {0, 1}, {0, 20}, {3, 1}, {60, 20}};
            int[][] missed = {{4, 1}, {61, 20}, {100, 1}, {100, 20}};
            atLeastAll(high, 3, p, reached, true);
            atLeastAll(low, -3, p, reached, true);
            atLeastAll(high, 3, p, between, true);
            atLeastAll(low, -3, p, between, false);
            atLeastAll(high, 3, p, missed, false);
            atLeastAll(low, -3, p, missed, false);
        }
    }

    private static void atLeastAll(MeanPayoffGame x, int value, int p, int[][] bounds, boolean want) {
        for (int[] bound : bounds) {
            String name = "atLeast(" + p + ", " + bound[0] + ", " + bound[1] + ") at value " + value;
            due(9, name, x, y -> y.atLeast(p, bound[0], bound[1]) ? 1 : 0, want ? 1 : 0);
        }
    }

    // Promise 10: "rounded down (towards smaller numbers); BAD_ARG * 60 if p is not 0 to N - 1."
    private static void sixtieths(int n) {
        for (int p : outside(0, n - 1)) {
            refused(10, n, "sixtieths(" + p + ")", x -> x.sixtieths(p), -6000);
        }
        // 60 has every number of moves of a cycle as a divisor, so that rounding down in either
        // direction from 0 must leave the exact number; rounding the value first would not.
        for (int length = 1; length <= n; length++) {
            for (int sum = -3 * length; sum <= 3 * length; sum++) {
                MeanPayoffGame x = cycle(n, length, sum);
                int want = Math.floorDiv(60 * sum, length);
                due(10, "sixtieths(0), value " + sum + "/" + length, x, y -> y.sixtieths(0), want);
                due(10, "sixtieths(N - 1), value " + sum + "/" + length, x, y -> y.sixtieths(n - 1), want);
            }
        }
    }

    /** From every place one way alone: to the cycle of the first places, whose weights have the sum. */
    private static MeanPayoffGame cycle(int n, int length, int sum) {
        State s = new State(n);
        for (int i = 0; i < 2 * n; i++) {
            int p = i / 2;
            boolean on = p < length;
            s.target[i] = on ? (p + 1) % length : 0;
            s.weight[i] = on ? Math.floorDiv(sum, length) + (p < Math.floorMod(sum, length) ? 1 : 0) : 3;
        }
        return s.make();
    }

    // Promise 11: "False if there is no such place or move."
    private static void keeps(int n) {
        for (State s : states(n)) {
            // Without a choice both moves keep the value, so only a refused call answers false.
            for (int i = 0; i < 2 * n; i += 2) {
                s.target[i + 1] = s.target[i];
                s.weight[i + 1] = s.weight[i];
            }
            MeanPayoffGame x = s.make();
            for (int p : new int[] {0, n - 1}) {
                due(11, "keeps(" + p + ", 0)", x, y -> y.keeps(p, 0) ? 1 : 0, 1);
                due(11, "keeps(" + p + ", 1)", x, y -> y.keeps(p, 1) ? 1 : 0, 1);
                holds(11, "keeps", x, s);
            }
        }
        for (int p : outside(0, n - 1)) {
            for (int m : new int[] {0, 1, p}) {
                refused(11, n, "keeps(" + p + ", " + m + ")", x -> x.keeps(p, m) ? 1 : 0, 0);
            }
        }
        for (int m : outside(0, 1)) {
            for (int p = 0; p < n; p++) {
                int place = p;
                refused(11, n, "keeps(" + p + ", " + m + ")", x -> x.keeps(place, m) ? 1 : 0, 0);
            }
        }
    }

    private static void refusedWinning(int n, int a, int b) {
        refused(12, n, "winning(" + a + ", " + b + ")", x -> x.winning(a, b), 0);
    }

    // Promise 12: "0 if a is not -100 to 100 or b not 1 to 20."
    private static void winning(int n) {
        for (int a : outside(-100, 100)) {
            refusedWinning(n, a, 1);
            refusedWinning(n, a, 20);
        }
        for (int b : outside(1, 20)) {
            refusedWinning(n, -100, b);
            refusedWinning(n, 0, b);
            refusedWinning(n, 100, b);
        }
        refusedWinning(n, LEAST, LEAST);
        refusedWinning(n, GREATEST, GREATEST);
        MeanPayoffGame high = new State(n).weights(3).make();
        MeanPayoffGame low = new State(n).weights(-3).make();
        int[][] bounds = {{-100, 1}, {-100, 20}, {-60, 20}, {-59, 20}, {0, 1}, {0, 20}, {60, 20}, {61, 20}, {100, 1},
            {100, 20}};
        for (int[] bound : bounds) {
            int a = bound[0];
            int b = bound[1];
            due(12, "winning(" + a + ", " + b + ") at value 3", high, y -> y.winning(a, b), a <= 3 * b ? n : 0);
            due(12, "winning(" + a + ", " + b + ") at value -3", low, y -> y.winning(a, b), a <= -3 * b ? n : 0);
        }
        MeanPayoffGame last = loops(n, n == 1 ? 3 : -3, 3);
        due(12, "winning(60, 20), the last place alone", last, y -> y.winning(60, 20), 1);
    }

    // Promise 13: "BAD_ARG if p is not 0 to N - 1; N + 1 if it can't become greater in this way."
    private static void gifts(int n) {
        for (int p : outside(0, n - 1)) {
            refused(13, n, "gifts(" + p + ")", x -> x.gifts(p), BAD);
        }
        // Nothing to give; nothing to gain; and from one gift to as many as there are places.
        State all = new State(n).mixed().owners(1);
        State level = new State(n).mixed().owners(0).weights(2);
        State ladder = new State(n).owners(0);
        for (int p = 0; p < n; p++) {
            ladder.target[2 * p] = 0;
            ladder.target[2 * p + 1] = Math.min(p + 1, n - 1);
        }
        ladder.weight[2 * n - 1] = 3;
        for (int p = 0; p < n; p++) {
            giftsOf(all, p, n + 1);
            giftsOf(level, p, n + 1);
            giftsOf(ladder, p, n - p);
        }
    }

    private static void giftsOf(State s, int p, int want) {
        MeanPayoffGame x = s.make();
        due(13, "gifts(" + p + ")", x, y -> y.gifts(p), want);
        holds(13, "gifts(" + p + ")", x, s);
    }

    private static void shiftOf(State s, int w, int want) {
        MeanPayoffGame x = s.make();
        String before = answers(x);
        due(14, "shift(" + w + ")", x, y -> y.shift(w), want);
        if (want == BAD && !answers(x).equals(before)) {
            fault(14, "shift(" + w + ") changed " + before + " to " + answers(x));
        }
        for (int i = 0; want == 0 && i < 2 * s.n; i++) {
            s.weight[i] += w;
        }
        holds(14, "shift(" + w + ")", x, s);
    }

    // Promise 14: "BAD_ARG (and nothing changes) if w is not -6 to 6 or one would not be -3 to 3".
    private static void shift(int n) {
        for (int w : outside(-6, 6)) {
            refused(14, n, "shift(" + w + ")", x -> x.shift(w), BAD);
        }
        for (int all = -3; all <= 3; all++) {
            for (int w = -7; w <= 7; w++) {
                shiftOf(new State(n).weights(all), w, Math.abs(w) <= 6 && Math.abs(all + w) <= 3 ? 0 : BAD);
            }
        }
        // One weight alone is in the way, at each move in turn, so that the others must not change.
        for (int i = 0; i < 2 * n; i++) {
            for (int w = 1; w <= 6; w++) {
                State up = new State(n).mixed().weights(-3);
                up.weight[i] = 4 - w;
                shiftOf(up, w, BAD);
                State down = new State(n).mixed().weights(3);
                down.weight[i] = w - 4;
                shiftOf(down, -w, BAD);
                State upLast = new State(n).mixed().weights(-3);
                upLast.weight[i] = 3 - w;
                shiftOf(upLast, w, 0);
                State downLast = new State(n).mixed().weights(3);
                downLast.weight[i] = w - 3;
                shiftOf(downLast, -w, 0);
            }
        }
    }

    // Promise 15: "Every place goes to the other player and every weight w becomes -w."
    private static void mirror(int n) {
        for (State s : states(n)) {
            MeanPayoffGame x = s.make();
            int[] values = new int[n];
            for (int p = 0; p < n; p++) {
                values[p] = x.sixtieths(p);
            }
            for (int times = 1; times <= 2; times++) {
                x.mirror();
                for (int i = 0; i < 2 * n; i++) {
                    s.weight[i] = -s.weight[i];
                }
                for (int p = 0; p < n; p++) {
                    int place = p;
                    s.owner[p] = 1 - s.owner[p];
                    values[p] = -values[p];
                    due(15, "sixtieths(" + p + ") after mirror()", x, y -> y.sixtieths(place), values[p]);
                }
                holds(15, "mirror() " + times + " times", x, s);
            }
        }
    }

    // Terms: "Fractions are given in lowest terms with a denominator of 1 to N; 0 is 0 / 1."
    private static void lowestTerms(int n) {
        for (int length = 1; length <= n; length++) {
            for (int sum = -3 * length; sum <= 3 * length; sum++) {
                MeanPayoffGame x = cycle(n, length, sum);
                int denominator = 1;
                while (sum * denominator % length != 0) {
                    denominator++;
                }
                int numerator = sum * denominator / length;
                for (int p : new int[] {0, n - 1}) {
                    String value = "(" + p + "), value " + sum + "/" + length;
                    due(7, "numerator" + value, x, y -> y.numerator(p), numerator);
                    due(8, "denominator" + value, x, y -> y.denominator(p), denominator);
                }
            }
        }
    }

    // Terms: "No call ever throws." Every argument of a call is wrong or right apart from the others.
    private static void neverThrows(int n) {
        int[] some = {LEAST, LEAST + 1, -101, -100, -7, -1, 0, 1, 2, 4, 5, 6, 7, 20, 21, 32, 100, 101, 1 << 30, GREATEST};
        for (State s : states(n)) {
            for (int i : some) {
                for (int j : some) {
                    MeanPayoffGame x = s.make();
                    try {
                        callAll(x, i, j, some);
                    } catch (RuntimeException | Error e) {
                        fault(0, "a call with " + i + " and " + j + " threw " + e + " at " + s);
                    }
                }
            }
        }
    }

    private static void callAll(MeanPayoffGame x, int i, int j, int[] some) {
        for (int k : some) {
            x.move(i, j, k, j);
            x.move(i, 1, j, k);
            x.move(0, i, j, k);
            x.atLeast(i, j, k);
            x.atLeast(0, i, k);
        }
        x.owner(i, j);
        x.target(i, j);
        x.weight(i, j);
        x.keeps(i, j);
        x.winning(i, j);
        x.numerator(i);
        x.denominator(i);
        x.sixtieths(i);
        x.gifts(i);
        x.shift(i);
        x.mirror();
        x.places();
    }

    // What it is: "An object is used for at most 512 calls": the last of them is answered as the first.
    private static void lastCall(int n) {
        MeanPayoffGame x = new MeanPayoffGame(n);
        due(4, "call 1", x, y -> y.move(0, 1, 0, 3), 0);
        for (int call = 2; call <= 510; call++) {
            x.mirror();
        }
        due(14, "call 511", x, y -> y.shift(-1), BAD);
        due(10, "call 512", x, y -> y.sixtieths(0), -180);
    }

    public static void main(String[] args) {
        newObject();
        places();
        for (int n = 1; n <= 5; n++) {
            owner(n);
            move(n);
            targetAndWeight(n);
            numeratorAndDenominator(n);
            atLeast(n);
            sixtieths(n);
            keeps(n);
            winning(n);
            gifts(n);
            shift(n);
            mirror(n);
            lowestTerms(n);
            neverThrows(n);
            lastCall(n);
        }
        System.out.println(wrong == 0 ? "all answers are as due" : wrong + " answers are not as due");
        if (wrong != 0) System.exit(1);
    }
}
