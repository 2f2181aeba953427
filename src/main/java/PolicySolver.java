/** Decision processes with exact values: 4 states, 2 actions in each, values halved at every step. */
public final class PolicySolver {
    public static final int BAD = -1000000;

    private static final int STATES = 4;
    private static final int ACTIONS = 2;
    private static final int POLICIES = 16;
    private static final int CHOICES = 8;
    private static final int CHOICE_SHARES = 32;
    private static final int VALUES = 64;

    private static final int REWARD_LIMIT = 20;
    private static final int SHARE_SUM = 4;
    private static final int SHARE_BASE = 5;
    private static final int SHARE_CODES = 625;

    // v = r + 1/2 * (share / 4) * v, times 8, has whole coefficients only.
    private static final int SCALE = 8;
    private static final int COLUMNS = 5;
    private static final int RIGHT_SIDE = 4;
    private static final int EQUATION_CELLS = 20;

    // Euclid's steps on two ints are fewer than 50.
    private static final int DIVISOR_STEPS = 1000;

    private final int[] rewardOf = new int[CHOICES];
    private final int[] shareOf = new int[CHOICE_SHARES];
    private final int[] equations = new int[EQUATION_CELLS];
    private final int[] topOf = new int[VALUES];
    private final int[] bottomOf = new int[VALUES];
    private final boolean[] isBest = new boolean[POLICIES];

    public PolicySolver() {
        for (int s = 0; s < STATES; s++) {
            for (int a = 0; a < ACTIONS; a++) {
                shareOf[(s * ACTIONS + a) * STATES + s] = SHARE_SUM;
            }
        }
        solveAll();
    }

    public boolean reward(int s, int a, int reward) {
        if (!isChoice(s, a) || reward < -REWARD_LIMIT || reward > REWARD_LIMIT) {
            return false;
        }
        rewardOf[s * ACTIONS + a] = reward;
        solveAll();
        return true;
    }

    public boolean shares(int s, int a, int shares) {
        if (!isChoice(s, a) || !isShareCode(shares)) {
            return false;
        }
        int first = (s * ACTIONS + a) * STATES;
        int rest = shares;
        for (int t = STATES - 1; t >= 0; t--) {
            shareOf[first + t] = rest % SHARE_BASE;
            rest /= SHARE_BASE;
        }
        solveAll();
        return true;
    }

    public int valueTop(int policy, int s) {
        return isPolicy(policy) && isState(s) ? topOf[policy * STATES + s] : BAD;
    }

    public int valueBottom(int policy, int s) {
        return isPolicy(policy) && isState(s) ? bottomOf[policy * STATES + s] : BAD;
    }

    public int bestTop(int s) {
        return isState(s) ? topOf[smallestBest() * STATES + s] : BAD;
    }

    public int bestBottom(int s) {
        return isState(s) ? bottomOf[smallestBest() * STATES + s] : BAD;
    }

    public int policy() {
        return smallestBest();
    }

    public int policies() {
        int count = 0;
        for (int p = 0; p < POLICIES; p++) {
            if (isBest[p]) {
                count++;
            }
        }
        return count;
    }

    public boolean good(int s, int a) {
        return isChoice(s, a) && isNamedByBest(s, a);
    }

    public int prune() {
        int changed = 0;
        // The best policies are found again only after the loop, so that
        // every action is judged by the process as it was before the call.
        for (int s = 0; s < STATES; s++) {
            for (int a = 0; a < ACTIONS; a++) {
                if (!isNamedByBest(s, a)) {
                    copyFromOther(s, a);
                    changed++;
                }
            }
        }
        solveAll();
        return changed;
    }

    public int compare(int p, int q, int s) {
        return isPolicy(p) && isPolicy(q) && isState(s) ? order(p, q, s) : -2;
    }

    private static boolean isState(int s) {
        return s >= 0 && s < STATES;
    }

    private static boolean isChoice(int s, int a) {
        return s >= 0 && s < STATES && a >= 0 && a < ACTIONS;
    }

    private static boolean isPolicy(int p) {
        return p >= 0 && p < POLICIES;
    }

    private static boolean isShareCode(int code) {
        if (code < 0 || code >= SHARE_CODES) {
            return false;
        }
        int sum = 0;
        int rest = code;
        for (int t = 0; t < STATES; t++) {
            sum += rest % SHARE_BASE;
            rest /= SHARE_BASE;
        }
        return sum == SHARE_SUM;
    }

    private static int actionOf(int p, int s) {
        return (p >> s) & 1;
    }

    private int smallestBest() {
        for (int p = 0; p < POLICIES; p++) {
            if (isBest[p]) {
                return p;
            }
        }
        // Not reached: some policy is always best.
        return 0;
    }

    private boolean isNamedByBest(int s, int a) {
        for (int p = 0; p < POLICIES; p++) {
            if (isBest[p] && actionOf(p, s) == a) {
                return true;
            }
        }
        return false;
    }

    private void copyFromOther(int s, int a) {
        int to = s * ACTIONS + a;
        int from = s * ACTIONS + 1 - a;
        rewardOf[to] = rewardOf[from];
        for (int t = 0; t < STATES; t++) {
            shareOf[to * STATES + t] = shareOf[from * STATES + t];
        }
    }

    private void solveAll() {
        for (int p = 0; p < POLICIES; p++) {
            writeEquations(p);
            solveEquations(p);
        }
        for (int p = 0; p < POLICIES; p++) {
            isBest[p] = isNowhereBeaten(p);
        }
    }

    private void writeEquations(int p) {
        for (int s = 0; s < STATES; s++) {
            int choice = s * ACTIONS + actionOf(p, s);
            int row = s * COLUMNS;
            for (int t = 0; t < STATES; t++) {
                equations[row + t] = -shareOf[choice * STATES + t];
            }
            equations[row + s] += SCALE;
            equations[row + RIGHT_SIDE] = SCALE * rewardOf[choice];
        }
    }

    // Cramer's rule, for it stays in whole numbers. In every row the diagonal
    // outweighs the rest, so the determinant below the line is from 1 to 4096;
    // no value is beyond 40 or -40, so the one above it fits an int as well.
    private void solveEquations(int p) {
        int bottom = determinant(0, 1, 2, 3);
        for (int s = 0; s < STATES; s++) {
            int c0 = s == 0 ? RIGHT_SIDE : 0;
            int c1 = s == 1 ? RIGHT_SIDE : 1;
            int c2 = s == 2 ? RIGHT_SIDE : 2;
            int c3 = s == 3 ? RIGHT_SIDE : 3;
            int top = determinant(c0, c1, c2, c3);
            storeLowest(p * STATES + s, top, bottom);
        }
    }

    // Laplace's expansion by the upper and the lower two rows.
    private int determinant(int c0, int c1, int c2, int c3) {
        return minor(0, c0, c1) * minor(2, c2, c3)
            - minor(0, c0, c2) * minor(2, c1, c3)
            + minor(0, c0, c3) * minor(2, c1, c2)
            + minor(0, c1, c2) * minor(2, c0, c3)
            - minor(0, c1, c3) * minor(2, c0, c2)
            + minor(0, c2, c3) * minor(2, c0, c1);
    }

    private int minor(int upperRow, int left, int right) {
        int upper = upperRow * COLUMNS;
        int lower = upper + COLUMNS;
        return equations[upper + left] * equations[lower + right]
            - equations[upper + right] * equations[lower + left];
    }

    private void storeLowest(int place, int top, int bottom) {
        int divisor = commonDivisor(top, bottom);
        if (divisor > 0) {
            topOf[place] = top / divisor;
            bottomOf[place] = bottom / divisor;
        }
    }

    private static int commonDivisor(int top, int bottom) {
        int large = top < 0 ? -top : top;
        int small = bottom;
        for (int step = 0; step < DIVISOR_STEPS && small != 0; step++) {
            int rest = large % small;
            large = small;
            small = rest;
        }
        return large;
    }

    private boolean isNowhereBeaten(int p) {
        for (int q = 0; q < POLICIES; q++) {
            for (int s = 0; s < STATES; s++) {
                if (order(p, q, s) < 0) {
                    return false;
                }
            }
        }
        return true;
    }

    private int order(int p, int q, int s) {
        int atP = p * STATES + s;
        int atQ = q * STATES + s;
        long left = (long) topOf[atP] * bottomOf[atQ];
        long right = (long) topOf[atQ] * bottomOf[atP];
        if (left == right) {
            return 0;
        }
        return left < right ? -1 : 1;
    }
}
