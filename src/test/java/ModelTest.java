// Long runs of calls, right and wrong ones mixed, against a model that finds values in another way:
// not over strategies, but by playing a long time and taking the average (Zwick and Paterson).
// The numbers come from a fixed formula, so every run is the same.
public final class ModelTest {
    private static final int BAD = -100;
    private static final int OBJECTS = 70;
    private static final int CALLS = 512;
    private static final int[] FAR_AWAY = {Integer.MIN_VALUE, Integer.MAX_VALUE, -256, 32, 256, 1 << 30};

    // The average over k moves is at most 2 * N * 3 / k from the value; two fractions with
    // denominators up to 5 are at least 1 / 20 apart, so 1500 moves tell which one it is.
    private static final int LONG_TIME = 1500;

    private static long seed = 20261115L;
    private static int wrong = 0;

    private static int reach;
    private static int n;
    private static int[] owner;
    private static int[][] target;
    private static int[][] weight;
    private static int[][] known;

    private static int number(int from, int to) {
        seed = seed * 6364136223846793005L + 1442695040888963407L;
        return from + (int) ((seed >>> 33) % (to - from + 1));
    }

    /** Mostly within the range, now and then next to it or far away. */
    private static int argument(int from, int to) {
        int kind = number(0, 39);
        if (kind == 0) return FAR_AWAY[number(0, FAR_AWAY.length - 1)];
        return kind == 1 ? number(from - 2, to + 2) : number(from, to);
    }

    private static boolean place(int p) {
        return 0 <= p && p < n;
    }

    private static boolean fraction(int a, int b) {
        return -100 <= a && a <= 100 && 1 <= b && b <= 20;
    }

    /** For every place the numerator and the denominator of its value. */
    private static int[][] solve(int[] owner, int[][] target, int[][] weight) {
        int[] total = new int[n];
        for (int k = 0; k < LONG_TIME; k++) {
            int[] next = new int[n];
            for (int p = 0; p < n; p++) {
                int x = weight[p][0] + total[target[p][0]];
                int y = weight[p][1] + total[target[p][1]];
                next[p] = owner[p] == 1 ? Math.max(x, y) : Math.min(x, y);
            }
            total = next;
        }
        int[][] values = new int[n][];
        for (int p = 0; p < n; p++) {
            values[p] = nearestFraction(total[p]);
        }
        return values;
    }

    private static int[] nearestFraction(int total) {
        int[] nearest = {0, 1};
        for (int d = 1; d <= n; d++) {
            for (int a = -3 * d; a <= 3 * d; a++) {
                long gap = Math.abs((long) total * d - (long) a * LONG_TIME) * nearest[1];
                long least = Math.abs((long) total * nearest[1] - (long) nearest[0] * LONG_TIME) * d;
                if (gap < least) nearest = new int[] {a, d};
            }
        }
        return nearest;
    }

    private static int[][] values() {
        if (known == null) known = solve(owner, target, weight);
        return known;
    }

    private static long compare(int[] x, int[] y) {
        return (long) x[0] * y[1] - (long) y[0] * x[1];
    }

    private static long keeps(int p, int m) {
        if (!place(p) || m < 0 || m > 1) return 0;
        int[] t = target[p];
        int[] w = weight[p];
        target[p] = new int[] {t[m], t[m]};
        weight[p] = new int[] {w[m], w[m]};
        int[] changed = solve(owner, target, weight)[p];
        target[p] = t;
        weight[p] = w;
        return compare(changed, values()[p]) == 0 ? 1 : 0;
    }

    private static long gifts(int p) {
        if (!place(p)) return BAD;
        for (int number = 1; number <= n; number++) {
            for (int set = 0; set < 1 << n; set++) {
                if (Integer.bitCount(set) == number && helps(p, set)) return number;
            }
        }
        return n + 1;
    }

    private static boolean helps(int p, int set) {
        int[] changed = owner.clone();
        for (int q = 0; q < n; q++) {
            if ((set >> q & 1) == 1) {
                if (owner[q] == 1) return false;
                changed[q] = 1;
            }
        }
        return compare(solve(changed, target, weight)[p], values()[p]) > 0;
    }

    private static long setOwner(int p, int player) {
        if (!place(p) || player < 0 || player > 1) return BAD;
        int before = owner[p];
        owner[p] = player;
        known = null;
        return before;
    }

    private static long setMove(int p, int m, int q, int w) {
        if (!place(p) || !place(q) || m < 0 || m > 1 || w < -3 || w > 3) return BAD;
        target[p][m] = q;
        weight[p][m] = w;
        known = null;
        return 0;
    }

    private static long shift(int w) {
        if (w < -6 || w > 6) return BAD;
        for (int[] both : weight) {
            for (int old : both) {
                if (Math.abs(old + w) > 3) return BAD;
            }
        }
        for (int[] both : weight) {
            both[0] += w;
            both[1] += w;
        }
        known = null;
        return 0;
    }

    private static void mirror() {
        for (int p = 0; p < n; p++) {
            owner[p] = 1 - owner[p];
            weight[p][0] = -weight[p][0];
            weight[p][1] = -weight[p][1];
        }
        known = null;
    }

    private static long winning(int a, int b) {
        if (!fraction(a, b)) return 0;
        int count = 0;
        for (int[] value : values()) {
            if (compare(value, new int[] {a, b}) >= 0) count++;
        }
        return count;
    }

    private static void due(String call, long got, long want) {
        if (got != want) {
            wrong++;
            System.out.println(call + " answered " + got + ", due is " + want);
        }
    }

    private static MeanPayoffGame fresh(int size) {
        n = Math.max(1, Math.min(5, size));
        owner = new int[n];
        target = new int[n][2];
        weight = new int[n][2];
        known = null;
        for (int p = 0; p < n; p++) {
            owner[p] = 1 - p % 2;
            target[p][0] = p;
            target[p][1] = p;
        }
        return new MeanPayoffGame(size);
    }

    private static void call(MeanPayoffGame x, String name) {
        int p = argument(0, n - 1);
        int q = argument(0, n - 1);
        int m = argument(0, 1);
        int w = argument(-reach, reach);
        int by = number(0, 1) == 0 ? argument(-6, 6) : number(-1, 1);
        int a = number(0, 2) == 0 ? argument(-100, 100) : number(-12, 12);
        int b = number(0, 2) == 0 ? argument(1, 20) : number(1, 6);
        boolean isPlace = place(p);
        boolean isMove = isPlace && (m == 0 || m == 1);
        switch (number(0, 21)) {
            case 0: due(name + "owner(" + p + ", " + m + ")", x.owner(p, m), setOwner(p, m)); break;
            case 1: due(name + "target(" + p + ", " + m + ")", x.target(p, m), isMove ? target[p][m] : BAD); break;
            case 2: due(name + "weight(" + p + ", " + m + ")", x.weight(p, m), isMove ? weight[p][m] : BAD); break;
            case 3: due(name + "numerator(" + p + ")", x.numerator(p), isPlace ? values()[p][0] : BAD); break;
            case 4: due(name + "denominator(" + p + ")", x.denominator(p), isPlace ? values()[p][1] : BAD); break;
            case 5:
                due(name + "sixtieths(" + p + ")", x.sixtieths(p),
                    isPlace ? Math.floorDiv(60 * values()[p][0], values()[p][1]) : -6000);
                break;
            case 6:
                due(name + "atLeast(" + p + ", " + a + ", " + b + ")", x.atLeast(p, a, b) ? 1 : 0,
                    isPlace && fraction(a, b) && compare(values()[p], new int[] {a, b}) >= 0 ? 1 : 0);
                break;
            case 7: due(name + "winning(" + a + ", " + b + ")", x.winning(a, b), winning(a, b)); break;
            case 8: case 9: due(name + "keeps(" + p + ", " + m + ")", x.keeps(p, m) ? 1 : 0, keeps(p, m)); break;
            case 10: due(name + "gifts(" + p + ")", x.gifts(p), gifts(p)); break;
            case 11: due(name + "shift(" + by + ")", x.shift(by), shift(by)); break;
            case 12: x.mirror(); mirror(); break;
            case 13: due(name + "places()", x.places(), n); break;
            default: due(name + "move(" + p + ", " + m + ", " + q + ", " + w + ")", x.move(p, m, q, w), setMove(p, m, q, w));
        }
    }

    public static void main(String[] args) {
        for (int object = 0; object < OBJECTS; object++) {
            MeanPayoffGame x = fresh(object % 7);
            // Weights near 0 alone, in every second object, leave more room for shifts.
            reach = object % 2 == 0 ? 3 : 1;
            for (int call = 1; call <= CALLS; call++) {
                call(x, "object " + object + ", call " + call + ": ");
            }
        }
        System.out.println(wrong == 0 ? "all answers are as due" : wrong + " answers are not as due");
        if (wrong != 0) System.exit(1);
    }
}
