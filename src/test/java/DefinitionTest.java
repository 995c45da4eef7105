import java.util.ArrayList;
import java.util.Arrays;
import java.util.List;

// What the document's section 'Terms' says, word by word: strategies, the mean of the cycle that they
// run into, and the value, once from the side of MAX and once from the side of MIN. With it the answers
// of promises 7 to 13 for every game of 1 and of 2 places, and for a sample of those of 3 to 5.
public final class DefinitionTest {
    private static final int SAMPLE = 2500;

    private static long seed = 3L;
    private static int wrong = 0;

    /** An exact fraction over a divisor above 0, as it comes: not in lowest terms. */
    private static final class Fraction {
        final int over;
        final int under;

        Fraction(int over, int under) {
            this.over = over;
            this.under = under;
        }

        boolean isLess(Fraction other) {
            return over * other.under < other.over * under;
        }

        boolean isEqual(Fraction other) {
            return over * other.under == other.over * under;
        }

        /** What has to be taken out of both for lowest terms. */
        int divisor() {
            int a = Math.abs(over);
            int b = under;
            while (a != 0) {
                int rest = b % a;
                b = a;
                a = rest;
            }
            return b;
        }
    }

    /** Move m of place p has the index 2 * p + m. */
    private static final class Game {
        final int n;
        final int[] owner;
        final int[] target;
        final int[] weight;

        Game(int n) {
            this.n = n;
            owner = new int[n];
            target = new int[2 * n];
            weight = new int[2 * n];
        }

        Game copy() {
            Game copy = new Game(n);
            System.arraycopy(owner, 0, copy.owner, 0, n);
            System.arraycopy(target, 0, copy.target, 0, 2 * n);
            System.arraycopy(weight, 0, copy.weight, 0, 2 * n);
            return copy;
        }

        /** The mean from place p if move moves[q] is taken at each place q. */
        Fraction mean(int p, int[] moves) {
            int[] sumAt = new int[n];
            int[] stepAt = new int[n];
            Arrays.fill(stepAt, -1);
            int sum = 0;
            int step = 0;
            int at = p;
            while (stepAt[at] < 0) {
                sumAt[at] = sum;
                stepAt[at] = step;
                sum += weight[2 * at + moves[at]];
                step++;
                at = target[2 * at + moves[at]];
            }
            return new Fraction(sum - sumAt[at], step - stepAt[at]);
        }

        /** Puts a player's strategy into the moves: the bits of the number, place by place. */
        void choose(int player, int strategy, int[] moves) {
            int bits = strategy;
            for (int p = 0; p < n; p++) {
                if (owner[p] == player) {
                    moves[p] = bits & 1;
                    bits >>= 1;
                }
            }
        }

        int strategies(int player) {
            int number = 1;
            for (int p = 0; p < n; p++) {
                if (owner[p] == player) number *= 2;
            }
            return number;
        }

        /** What the first player can be sure of from p, whatever the other one does. */
        Fraction sure(int p, int first) {
            int[] moves = new int[n];
            Fraction best = null;
            for (int s = 0; s < strategies(first); s++) {
                choose(first, s, moves);
                Fraction worst = null;
                for (int t = 0; t < strategies(1 - first); t++) {
                    choose(1 - first, t, moves);
                    Fraction mean = mean(p, moves);
                    if (worst == null || better(1 - first, mean, worst)) worst = mean;
                }
                if (best == null || better(first, worst, best)) best = worst;
            }
            return best;
        }

        static boolean better(int player, Fraction x, Fraction y) {
            return player == 1 ? y.isLess(x) : x.isLess(y);
        }

        Fraction value(int p) {
            return sure(p, 1);
        }

        boolean keeps(int p, int m) {
            Game changed = copy();
            changed.target[2 * p + 1 - m] = target[2 * p + m];
            changed.weight[2 * p + 1 - m] = weight[2 * p + m];
            return changed.value(p).isEqual(value(p));
        }

        int gifts(int p) {
            Fraction now = value(p);
            List<Game> games = List.of(this);
            for (int given = 1; given <= n; given++) {
                List<Game> next = new ArrayList<>();
                for (Game game : games) {
                    game.giveOne(next);
                }
                for (Game game : next) {
                    if (now.isLess(game.value(p))) return given;
                }
                games = next;
            }
            return n + 1;
        }

        /** Adds all games in which MIN has given one place more, so that sets come more than once. */
        void giveOne(List<Game> next) {
            for (int q = 0; q < n; q++) {
                if (owner[q] == 0) {
                    Game game = copy();
                    game.owner[q] = 1;
                    next.add(game);
                }
            }
        }

        MeanPayoffGame build() {
            MeanPayoffGame x = new MeanPayoffGame(n);
            for (int p = 0; p < n; p++) {
                x.owner(p, owner[p]);
                x.move(p, 0, target[2 * p], weight[2 * p]);
                x.move(p, 1, target[2 * p + 1], weight[2 * p + 1]);
            }
            return x;
        }

        @Override
        public String toString() {
            StringBuilder text = new StringBuilder();
            for (int p = 0; p < n; p++) {
                text.append(owner[p] == 1 ? " MAX" : " MIN");
                for (int i = 2 * p; i < 2 * p + 2; i++) {
                    text.append(" to ").append(target[i]).append(" with ").append(weight[i]);
                }
                text.append(';');
            }
            return text.toString();
        }
    }

    private static int below(int bound) {
        seed = seed * 6364136223846793005L + 1442695040888963407L;
        return (int) ((seed >>> 33) % bound);
    }

    private static void due(Game game, String call, int got, int want) {
        if (got != want) {
            wrong++;
            if (wrong <= 20) System.out.println(call + " answered " + got + ", due is " + want + ":" + game);
        }
    }

    private static void due(Game game, String call, boolean got, boolean want) {
        due(game, call, got ? 1 : 0, want ? 1 : 0);
    }

    /** At most some 70 calls on one object. */
    private static void hold(Game game, int b) {
        MeanPayoffGame x = game.build();
        Fraction[] values = new Fraction[game.n];
        for (int p = 0; p < game.n; p++) {
            values[p] = game.value(p);
            due(game, "the two sides' values of place " + p + " being equal", values[p].isEqual(game.sure(p, 0)), true);
        }
        for (int p = 0; p < game.n; p++) {
            int divisor = values[p].divisor();
            due(game, "numerator(" + p + ")", x.numerator(p), values[p].over / divisor);
            due(game, "denominator(" + p + ")", x.denominator(p), values[p].under / divisor);
            due(game, "sixtieths(" + p + ")", x.sixtieths(p), Math.floorDiv(60 * values[p].over, values[p].under));
            due(game, "keeps(" + p + ", 0)", x.keeps(p, 0), game.keeps(p, 0));
            due(game, "keeps(" + p + ", 1)", x.keeps(p, 1), game.keeps(p, 1));
            due(game, "gifts(" + p + ")", x.gifts(p), game.gifts(p));
            int last = Math.floorDiv(values[p].over * b, values[p].under);
            due(game, "atLeast(" + p + ", " + last + ", " + b + ")", x.atLeast(p, last, b), true);
            due(game, "atLeast(" + p + ", " + (last + 1) + ", " + b + ")", x.atLeast(p, last + 1, b), false);
            due(game, "winning(" + last + ", " + b + ")", x.winning(last, b), winning(values, new Fraction(last, b)));
        }
    }

    private static int winning(Fraction[] values, Fraction bound) {
        int number = 0;
        for (Fraction value : values) {
            if (!value.isLess(bound)) number++;
        }
        return number;
    }

    /** Every game of n places, with the digits of a number for its targets, weights and owners. */
    private static void all(int n) {
        Game game = new Game(n);
        int numbers = 1 << n;
        for (int i = 0; i < 2 * n; i++) {
            numbers *= 7 * n;
        }
        for (int number = 0; number < numbers; number++) {
            int rest = number;
            for (int i = 0; i < 2 * n; i++) {
                game.target[i] = rest % n;
                rest /= n;
                game.weight[i] = rest % 7 - 3;
                rest /= 7;
            }
            for (int p = 0; p < n; p++) {
                game.owner[p] = rest >> p & 1;
            }
            hold(game, number % 20 + 1);
        }
    }

    private static void sample(int n) {
        for (int number = 0; number < SAMPLE; number++) {
            Game game = new Game(n);
            for (int p = 0; p < n; p++) {
                game.owner[p] = below(2);
            }
            for (int i = 0; i < 2 * n; i++) {
                game.target[i] = below(n);
                game.weight[i] = below(7) - 3;
            }
            hold(game, number % 20 + 1);
        }
    }

    public static void main(String[] args) {
        all(1);
        all(2);
        sample(3);
        sample(4);
        sample(5);
        System.out.println(wrong == 0 ? "all answers are as due" : wrong + " answers are not as due");
        if (wrong != 0) System.exit(1);
    }
}
