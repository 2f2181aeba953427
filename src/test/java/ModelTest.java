import java.math.BigInteger;
import java.util.Random;

/**
 * Long runs of drawn calls against a second solver that works another way: elimination over big fractions, and
 * good actions told by one step's look ahead. The seed is fixed, so every run of the test is the same.
 */
public final class ModelTest {
    private static final int RUNS = 400;
    private static final int CALLS = 512;

    private static int wrong = 0;

    public static void main(String[] args) {
        Random draw = new Random(20261115L);
        for (int run = 0; run < RUNS && wrong < 20; run++) {
            playRun(run, draw);
        }
        System.out.println(wrong == 0 ? "all answers are as due" : wrong + " answers are not as due");
        if (wrong != 0) {
            System.exit(1);
        }
    }

    private static void due(int run, String call, long got, long want) {
        if (got != want) {
            wrong++;
            System.out.println("run " + run + ": " + call + " answered " + got + ", due is " + want);
        }
    }

    private static void playRun(int run, Random draw) {
        PolicySolver x = new PolicySolver();
        Model m = new Model();
        // Narrow draws bring ties, wide ones bring large denominators.
        int spread = new int[] {1, 2, 5, 21}[run % 4];
        boolean plainShares = run % 3 == 0;
        for (int call = 0; call < CALLS && wrong < 20; call++) {
            int s = draw.nextInt(40) == 0 ? draw.nextInt(9) - 3 : draw.nextInt(4);
            int a = draw.nextInt(40) == 0 ? draw.nextInt(5) - 2 : draw.nextInt(2);
            int p = draw.nextInt(40) == 0 ? draw.nextInt(40) - 12 : draw.nextInt(16);
            int q = draw.nextInt(40) == 0 ? draw.nextInt(40) - 12 : draw.nextInt(16);
            int kind = draw.nextInt(call < 24 ? 2 : 31);
            if (kind == 0) {
                int r = draw.nextInt(2 * spread + 1) - spread;
                due(run, "reward(" + s + ", " + a + ", " + r + ")", x.reward(s, a, r) ? 1 : 0, m.reward(s, a, r) ? 1 : 0);
            } else if (kind == 1) {
                int code = drawShares(draw, plainShares);
                due(run, "shares(" + s + ", " + a + ", " + code + ")", x.shares(s, a, code) ? 1 : 0, m.shares(s, a, code) ? 1 : 0);
            } else if (kind == 2) {
                if (draw.nextInt(8) == 0) {
                    due(run, "prune()", x.prune(), m.prune());
                }
            } else {
                ask(run, x, m, kind % 9, new int[] {s, a, p, q});
            }
        }
    }

    private static int drawShares(Random draw, boolean plain) {
        if (draw.nextInt(8) == 0) {
            return draw.nextInt(700) - 30;
        }
        if (plain) {
            return new int[] {500, 100, 20, 4, 156}[draw.nextInt(5)];
        }
        int code = 0;
        for (int i = 0; i < 4; i++) {
            code += new int[] {125, 25, 5, 1}[draw.nextInt(4)];
        }
        return code;
    }

    private static void ask(int run, PolicySolver x, Model m, int kind, int[] n) {
        int s = n[0];
        int a = n[1];
        int p = n[2];
        int q = n[3];
        boolean state = s >= 0 && s < 4;
        boolean policy = p >= 0 && p < 16;
        switch (kind) {
            case 0 -> due(run, "valueTop(" + p + ", " + s + ")", x.valueTop(p, s),
                state && policy ? m.value(p)[s].top() : PolicySolver.BAD);
            case 1 -> due(run, "valueBottom(" + p + ", " + s + ")", x.valueBottom(p, s),
                state && policy ? m.value(p)[s].bottom() : PolicySolver.BAD);
            case 2 -> due(run, "bestTop(" + s + ")", x.bestTop(s), state ? m.best()[s].top() : PolicySolver.BAD);
            case 3 -> due(run, "bestBottom(" + s + ")", x.bestBottom(s), state ? m.best()[s].bottom() : PolicySolver.BAD);
            case 4 -> due(run, "policy()", x.policy(), m.policy());
            case 5 -> due(run, "policies()", x.policies(), m.policies());
            case 6 -> due(run, "good(" + s + ", " + a + ")", x.good(s, a) ? 1 : 0,
                state && (a == 0 || a == 1) && m.good(s, a) ? 1 : 0);
            default -> due(run, "compare(" + p + ", " + q + ", " + s + ")", x.compare(p, q, s),
                state && policy && q >= 0 && q < 16 ? m.value(p)[s].compareTo(m.value(q)[s]) : -2);
        }
    }

    private static final class Fraction implements Comparable<Fraction> {
        private final BigInteger top;
        private final BigInteger bottom;

        Fraction(BigInteger top, BigInteger bottom) {
            BigInteger by = top.gcd(bottom);
            by = bottom.signum() < 0 ? by.negate() : by;
            this.top = top.divide(by);
            this.bottom = bottom.divide(by);
        }

        static Fraction of(long top, long bottom) {
            return new Fraction(BigInteger.valueOf(top), BigInteger.valueOf(bottom));
        }

        Fraction plus(Fraction o) {
            return new Fraction(top.multiply(o.bottom).add(o.top.multiply(bottom)), bottom.multiply(o.bottom));
        }

        Fraction minus(Fraction o) {
            return plus(new Fraction(o.top.negate(), o.bottom));
        }

        Fraction times(Fraction o) {
            return new Fraction(top.multiply(o.top), bottom.multiply(o.bottom));
        }

        Fraction over(Fraction o) {
            return new Fraction(top.multiply(o.bottom), bottom.multiply(o.top));
        }

        @Override
        public int compareTo(Fraction o) {
            return top.multiply(o.bottom).compareTo(o.top.multiply(bottom));
        }

        long top() {
            return top.longValueExact();
        }

        long bottom() {
            return bottom.longValueExact();
        }
    }

    private static final class Model {
        private final int[][] rewards = new int[4][2];
        private final int[][][] shares = new int[4][2][4];
        private final Fraction[][] values = new Fraction[16][];
        private Fraction[] bestValues;

        Model() {
            for (int s = 0; s < 4; s++) {
                shares[s][0][s] = 4;
                shares[s][1][s] = 4;
            }
            forget();
        }

        private void forget() {
            java.util.Arrays.fill(values, null);
            bestValues = null;
        }

        private static boolean isChoice(int s, int a) {
            return s >= 0 && s <= 3 && (a == 0 || a == 1);
        }

        boolean reward(int s, int a, int r) {
            if (!isChoice(s, a) || Math.abs(r) > 20) {
                return false;
            }
            rewards[s][a] = r;
            forget();
            return true;
        }

        boolean shares(int s, int a, int code) {
            if (!isChoice(s, a)) {
                return false;
            }
            for (int i = 0; i <= 4; i++) {
                for (int j = 0; i + j <= 4; j++) {
                    for (int k = 0; i + j + k <= 4; k++) {
                        int l = 4 - i - j - k;
                        if (125 * i + 25 * j + 5 * k + l == code) {
                            shares[s][a] = new int[] {i, j, k, l};
                            forget();
                            return true;
                        }
                    }
                }
            }
            return false;
        }

        Fraction[] value(int p) {
            if (values[p] == null) {
                values[p] = solve(p);
            }
            return values[p];
        }

        private Fraction[] solve(int p) {
            Fraction[][] rows = new Fraction[4][5];
            for (int s = 0; s < 4; s++) {
                int a = p >> s & 1;
                for (int t = 0; t < 4; t++) {
                    rows[s][t] = Fraction.of(s == t ? 1 : 0, 1).minus(Fraction.of(shares[s][a][t], 8));
                }
                rows[s][4] = Fraction.of(rewards[s][a], 1);
            }
            for (int i = 0; i < 4; i++) {
                for (int s = 0; s < 4; s++) {
                    if (s != i) {
                        Fraction by = rows[s][i].over(rows[i][i]);
                        for (int t = 0; t < 5; t++) {
                            rows[s][t] = rows[s][t].minus(by.times(rows[i][t]));
                        }
                    }
                }
            }
            Fraction[] v = new Fraction[4];
            for (int s = 0; s < 4; s++) {
                v[s] = rows[s][4].over(rows[s][s]);
            }
            return v;
        }

        Fraction[] best() {
            if (bestValues == null) {
                bestValues = value(0).clone();
                for (int p = 1; p < 16; p++) {
                    for (int s = 0; s < 4; s++) {
                        if (value(p)[s].compareTo(bestValues[s]) > 0) {
                            bestValues[s] = value(p)[s];
                        }
                    }
                }
            }
            return bestValues;
        }

        boolean good(int s, int a) {
            Fraction ahead = Fraction.of(rewards[s][a], 1);
            for (int t = 0; t < 4; t++) {
                ahead = ahead.plus(best()[t].times(Fraction.of(shares[s][a][t], 8)));
            }
            return ahead.compareTo(best()[s]) == 0;
        }

        int policy() {
            int p = 0;
            for (int s = 0; s < 4; s++) {
                p |= good(s, 0) ? 0 : 1 << s;
            }
            return p;
        }

        int policies() {
            int count = 1;
            for (int s = 0; s < 4; s++) {
                count *= (good(s, 0) ? 1 : 0) + (good(s, 1) ? 1 : 0);
            }
            return count;
        }

        int prune() {
            int changed = 0;
            // The best values stay what they are, so the order of the copies does not matter here.
            for (int s = 0; s < 4; s++) {
                for (int a = 0; a < 2; a++) {
                    if (!good(s, a)) {
                        rewards[s][a] = rewards[s][1 - a];
                        shares[s][a] = shares[s][1 - a].clone();
                        forget();
                        changed++;
                    }
                }
            }
            return changed;
        }
    }
}
