/** Each promise of the document by itself: ordinary inputs, the edges it names, wrong inputs. */
public final class PromiseTest {
    private static final int[] WRONG_STATES = {-1, 4, 5, 8, -4, 1 << 30, 1 << 31, Integer.MAX_VALUE};
    private static final int[] WRONG_ACTIONS = {-1, 2, 3, 1 << 30, 1 << 31, Integer.MAX_VALUE};
    private static final int[] WRONG_POLICIES = {-1, 16, 17, 32, 1 << 28, 1 << 30, 1 << 31, Integer.MAX_VALUE};
    private static final int[] WRONG_REWARDS = {-21, 21, 40, -100, Integer.MIN_VALUE, Integer.MAX_VALUE};
    private static final int TO_0 = 500;
    private static final int TO_1 = 100;
    private static final int TO_2 = 20;
    private static final int TO_3 = 4;
    private static final int TO_ALL = 156;

    private static int wrong = 0;

    public static void main(String[] args) {
        newObject();
        reward();
        shares();
        values();
        valuesOutOfRange();
        bestValues();
        policyAndPolicies();
        good();
        prune();
        pruneJudgesAllActionsAtOnce();
        compare();
        refusedCallsChangeNothing();
        System.out.println(wrong == 0 ? "all answers are as due" : wrong + " answers are not as due");
        if (wrong != 0) {
            System.exit(1);
        }
    }

    private static void due(String what, long got, long want) {
        if (got != want) {
            wrong++;
            System.out.println(what + " answered " + got + ", due is " + want);
        }
    }

    private static void due(String what, boolean got, boolean want) {
        due(what, got ? 1L : 0L, want ? 1L : 0L);
    }

    private static void dueValue(PolicySolver x, int p, int s, int top, int bottom) {
        due("valueTop(" + p + ", " + s + ")", x.valueTop(p, s), top);
        due("valueBottom(" + p + ", " + s + ")", x.valueBottom(p, s), bottom);
    }

    private static void dueBest(PolicySolver x, int s, int top, int bottom) {
        due("bestTop(" + s + ")", x.bestTop(s), top);
        due("bestBottom(" + s + ")", x.bestBottom(s), bottom);
    }

    /** All that can be asked of the object in its ranges. */
    private static String answers(PolicySolver x) {
        StringBuilder text = new StringBuilder();
        for (int p = 0; p < 16; p++) {
            for (int s = 0; s < 4; s++) {
                text.append(x.valueTop(p, s)).append('/').append(x.valueBottom(p, s)).append(' ');
            }
        }
        for (int s = 0; s < 4; s++) {
            text.append(x.bestTop(s)).append('/').append(x.bestBottom(s)).append(' ');
            text.append(x.good(s, 0)).append(' ').append(x.good(s, 1)).append(' ');
        }
        return text.append(x.policy()).append(' ').append(x.policies()).toString();
    }

    // Promise 1
    private static void newObject() {
        PolicySolver x = new PolicySolver();
        for (int s = 0; s < 4; s++) {
            for (int p = 0; p < 16; p++) {
                dueValue(x, p, s, 0, 1);
            }
            dueBest(x, s, 0, 1);
            due("new good(s, 0)", x.good(s, 0), true);
            due("new good(s, 1)", x.good(s, 1), true);
        }
        due("new policy()", x.policy(), 0);
        due("new policies()", x.policies(), 16);
        due("new prune()", x.prune(), 0);
        for (int s = 0; s < 4; s++) {
            // One that stays in its state for sure is worth twice its reward, whatever the others are worth.
            x.reward(s, 0, s + 1);
            x.reward(s, 1, -s - 5);
        }
        for (int s = 0; s < 4; s++) {
            dueValue(x, 0, s, 2 * (s + 1), 1);
            dueValue(x, 15, s, 2 * (-s - 5), 1);
        }
    }

    // Promise 2
    private static void reward() {
        for (int s = 0; s < 4; s++) {
            for (int a = 0; a < 2; a++) {
                PolicySolver x = new PolicySolver();
                for (int r = -20; r <= 20; r++) {
                    due("reward(" + s + ", " + a + ", " + r + ")", x.reward(s, a, r), true);
                    dueValue(x, a << s, s, 2 * r, 1);
                    dueValue(x, (1 - a) << s, s, 0, 1);
                }
                for (int r : WRONG_REWARDS) {
                    due("reward(" + s + ", " + a + ", " + r + ")", x.reward(s, a, r), false);
                    dueValue(x, a << s, s, 40, 1);
                }
            }
        }
        PolicySolver x = new PolicySolver();
        for (int s : WRONG_STATES) {
            due("reward(" + s + ", 0, 1)", x.reward(s, 0, 1), false);
        }
        for (int a : WRONG_ACTIONS) {
            due("reward(0, " + a + ", 1)", x.reward(0, a, 1), false);
        }
    }

    // Promise 3
    private static void shares() {
        boolean[] made = new boolean[625];
        for (int i = 0; i <= 4; i++) {
            for (int j = 0; i + j <= 4; j++) {
                for (int k = 0; i + j + k <= 4; k++) {
                    made[125 * i + 25 * j + 5 * k + 4 - i - j - k] = true;
                }
            }
        }
        for (int from = -1300; from < 1300; from += 400) {
            PolicySolver x = new PolicySolver();
            for (int code = from; code < from + 400; code++) {
                due("shares(3, 1, " + code + ")", x.shares(3, 1, code), code >= 0 && code < 625 && made[code]);
            }
        }
        PolicySolver x = new PolicySolver();
        for (int code : new int[] {Integer.MIN_VALUE, Integer.MAX_VALUE, -500, -4, -156, 625 + 4, 1000, 1 << 30}) {
            due("shares(0, 0, " + code + ")", x.shares(0, 0, code), false);
        }
        for (int s : WRONG_STATES) {
            due("shares(" + s + ", 0, 4)", x.shares(s, 0, TO_3), false);
        }
        for (int a : WRONG_ACTIONS) {
            due("shares(0, " + a + ", 4)", x.shares(0, a, TO_3), false);
        }
        sharesWeighTheNextStates();
    }

    private static void sharesWeighTheNextStates() {
        for (int code = 0; code < 625; code++) {
            int[] share = {code / 125, code / 25 % 5, code / 5 % 5, code % 5};
            if (share[0] + share[1] + share[2] + share[3] != 4) {
                continue;
            }
            for (int s = 0; s < 4; s++) {
                for (int a = 0; a < 2; a++) {
                    PolicySolver x = new PolicySolver();
                    int[] value = {2, 10, -14, 38};
                    for (int t = 0; t < 4; t++) {
                        x.reward(t, 0, value[t] / 2);
                        x.reward(t, 1, value[t] / 2);
                    }
                    due("shares(" + s + ", " + a + ", " + code + ")", x.shares(s, a, code), true);
                    // (8 - own share) * v = 8 * reward + the other shares' values
                    int top = 4 * value[s];
                    for (int t = 0; t < 4; t++) {
                        top += t == s ? 0 : share[t] * value[t];
                    }
                    int bottom = 8 - share[s];
                    int gotTop = x.valueTop(a << s, s);
                    int gotBottom = x.valueBottom(a << s, s);
                    due("value after shares(" + s + ", " + a + ", " + code + ")", (long) gotTop * bottom, (long) top * gotBottom);
                    dueValue(x, (1 - a) << s, s, value[s], 1);
                }
            }
        }
    }

    /** A process with one best policy, in which both actions of every state differ. */
    private static PolicySolver mixed() {
        PolicySolver x = new PolicySolver();
        x.reward(0, 0, 1);
        x.shares(0, 0, TO_ALL);
        x.reward(1, 0, -3);
        x.shares(1, 0, TO_ALL);
        x.reward(1, 1, 2);
        x.shares(1, 1, TO_2);
        x.reward(2, 0, 7);
        x.shares(2, 0, 3 * 125 + 1);
        x.reward(2, 1, -20);
        x.reward(3, 1, 20);
        x.shares(3, 1, 2 * 25 + 2 * 5);
        return x;
    }

    // Promises 4 and 5
    private static void values() {
        PolicySolver x = new PolicySolver();
        // A ring: v0 = 1 + v1/2, v1 = v2/2, v2 = v3/2, v3 = v0/2, so v0 = 16/15.
        x.reward(0, 0, 1);
        x.shares(0, 0, TO_1);
        x.shares(1, 0, TO_2);
        x.shares(2, 0, TO_3);
        x.shares(3, 0, TO_0);
        dueValue(x, 0, 0, 16, 15);
        dueValue(x, 0, 1, 2, 15);
        dueValue(x, 0, 2, 4, 15);
        dueValue(x, 0, 3, 8, 15);
        // Below 0 the sign is above the line.
        x.reward(0, 0, -5);
        dueValue(x, 0, 0, -16, 3);
        dueValue(x, 0, 1, -2, 3);
        dueValue(x, 0, 2, -4, 3);
        dueValue(x, 0, 3, -8, 3);
        // A value of 0 is written 0/1, whatever the equations' determinant is.
        x.reward(0, 0, 0);
        dueValue(x, 0, 0, 0, 1);
        // The whole number at both ends of the range.
        for (int s = 0; s < 4; s++) {
            x.reward(s, 0, 20);
            x.reward(s, 1, -20);
            x.shares(s, 0, TO_ALL);
            x.shares(s, 1, TO_ALL);
        }
        for (int s = 0; s < 4; s++) {
            dueValue(x, 0, s, 40, 1);
            dueValue(x, 15, s, -40, 1);
        }
        // Bit s is the action of state s: the mean of all four values is 2 * the mean reward.
        dueValue(x, 1, 0, -10, 1);
        dueValue(x, 1, 3, 30, 1);
        dueValue(x, 8, 0, 30, 1);
        dueValue(x, 8, 3, -10, 1);
    }

    private static void valuesOutOfRange() {
        PolicySolver x = mixed();
        due("BAD", PolicySolver.BAD, -1000000);
        for (int p : WRONG_POLICIES) {
            for (int s = 0; s < 4; s++) {
                dueValue(x, p, s, -1000000, -1000000);
            }
        }
        for (int s : WRONG_STATES) {
            dueValue(x, 0, s, -1000000, -1000000);
            dueValue(x, 15, s, -1000000, -1000000);
            dueValue(x, -1, s, -1000000, -1000000);
            dueBest(x, s, -1000000, -1000000);
        }
    }

    // Promises 6 and 7
    private static void bestValues() {
        PolicySolver x = new PolicySolver();
        x.reward(0, 0, -6);
        x.reward(0, 1, -3);
        dueBest(x, 0, -6, 1);
        // Less at once, but on to a state that is worth more.
        x.reward(3, 1, 11);
        x.reward(0, 0, -5);
        x.shares(0, 0, TO_3);
        dueBest(x, 3, 22, 1);
        dueBest(x, 0, 6, 1);
        // v2 = 1/2 * (3/4 * v2 + 1/4 * 22)
        x.shares(2, 1, 3 * 5 + 1);
        dueBest(x, 2, 22, 5);
        dueBest(x, 1, 0, 1);
        x.reward(1, 0, -20);
        x.reward(1, 1, -20);
        dueBest(x, 1, -40, 1);
    }

    // Promises 8 and 9
    private static void policyAndPolicies() {
        PolicySolver x = new PolicySolver();
        int policy = 0;
        int policies = 16;
        for (int s = 3; s >= 0; s--) {
            x.reward(s, 1, 1);
            policy |= 1 << s;
            policies /= 2;
            due("policy()", x.policy(), policy);
            due("policies()", x.policies(), policies);
        }
        x.reward(2, 0, 1);
        due("policy() with a tie in state 2", x.policy(), 11);
        due("policies() with a tie in state 2", x.policies(), 2);
        // A tie between different actions: 1 and stay, or 0 and on to a state worth 4.
        x.reward(3, 1, 2);
        x.reward(0, 0, 0);
        x.shares(0, 0, TO_3);
        due("policy() with two ties", x.policy(), 10);
        due("policies() with two ties", x.policies(), 4);
        x.reward(2, 0, 2);
        due("policy() with state 2 decided", x.policy(), 10);
        x.reward(2, 1, -1);
        due("policy() with state 2 decided", x.policy(), 10);
        due("policies() with state 2 decided", x.policies(), 2);
    }

    // Promise 10
    private static void good() {
        PolicySolver x = new PolicySolver();
        for (int s = 0; s < 4; s++) {
            x.reward(s, 1, 1);
            due("good(" + s + ", 0)", x.good(s, 0), false);
            due("good(" + s + ", 1)", x.good(s, 1), true);
            x.reward(s, 0, 2);
            due("good(" + s + ", 0)", x.good(s, 0), true);
            due("good(" + s + ", 1)", x.good(s, 1), false);
            x.reward(s, 1, 2);
            due("good(" + s + ", 0)", x.good(s, 0), true);
            due("good(" + s + ", 1)", x.good(s, 1), true);
        }
        for (int s : WRONG_STATES) {
            due("good(" + s + ", 0)", x.good(s, 0), false);
            due("good(" + s + ", 1)", x.good(s, 1), false);
        }
        for (int a : WRONG_ACTIONS) {
            due("good(0, " + a + ")", x.good(0, a), false);
            due("good(3, " + a + ")", x.good(3, a), false);
        }
    }

    // Promise 11
    private static void prune() {
        PolicySolver x = new PolicySolver();
        x.reward(0, 1, 3);
        x.shares(0, 1, TO_2);
        x.reward(2, 0, 4);
        x.reward(2, 1, -4);
        x.shares(2, 1, TO_ALL);
        due("prune()", x.prune(), 2);
        due("policies() after prune", x.policies(), 16);
        due("policy() after prune", x.policy(), 0);
        for (int p = 0; p < 16; p++) {
            dueValue(x, p, 0, 7, 1);
            dueValue(x, p, 1, 0, 1);
            dueValue(x, p, 2, 8, 1);
            dueValue(x, p, 3, 0, 1);
        }
        due("prune() again", x.prune(), 0);
        // A copy is not bound to what it was copied from.
        x.reward(0, 1, 0);
        dueValue(x, 0, 0, 7, 1);
        dueValue(x, 1, 0, 4, 1);
        x.shares(0, 0, TO_0);
        dueValue(x, 0, 0, 6, 1);
        dueValue(x, 1, 0, 4, 1);
        // Actions that differ but are both good stay as they are.
        PolicySolver y = new PolicySolver();
        y.reward(3, 0, 4);
        y.reward(3, 1, 4);
        y.reward(0, 0, 2);
        y.reward(0, 1, 0);
        y.shares(0, 1, TO_3);
        due("prune() of a tie", y.prune(), 0);
        y.reward(0, 1, 1);
        dueValue(y, 1, 0, 5, 1);
        dueValue(y, 0, 0, 4, 1);
    }

    private static void pruneJudgesAllActionsAtOnce() {
        PolicySolver x = mixed();
        int policies = x.policies();
        int bad = 0;
        int[] tops = new int[4];
        int[] bottoms = new int[4];
        for (int s = 0; s < 4; s++) {
            bad += (x.good(s, 0) ? 0 : 1) + (x.good(s, 1) ? 0 : 1);
            tops[s] = x.bestTop(s);
            bottoms[s] = x.bestBottom(s);
        }
        due("policies() of the mixed process", policies, 1);
        due("prune() of the mixed process", x.prune(), bad);
        due("policies() after prune", x.policies(), 16);
        for (int s = 0; s < 4; s++) {
            for (int p = 0; p < 16; p++) {
                dueValue(x, p, s, tops[s], bottoms[s]);
            }
        }
    }

    // Promise 12
    private static void compare() {
        PolicySolver x = new PolicySolver();
        x.reward(1, 0, -1);
        x.reward(1, 1, 1);
        due("compare(0, 2, 1)", x.compare(0, 2, 1), -1);
        due("compare(2, 0, 1)", x.compare(2, 0, 1), 1);
        due("compare(2, 2, 1)", x.compare(2, 2, 1), 0);
        due("compare(15, 2, 1)", x.compare(15, 2, 1), 0);
        due("compare(0, 2, 0)", x.compare(0, 2, 0), 0);
        due("compare(0, 15, 3)", x.compare(0, 15, 3), 0);
        // -16/3 and -6: neither the numerators nor the denominators alone tell the order.
        PolicySolver y = new PolicySolver();
        y.reward(0, 0, -5);
        y.shares(0, 0, TO_1);
        y.shares(1, 0, TO_2);
        y.shares(2, 0, TO_3);
        y.shares(3, 0, TO_0);
        y.reward(0, 1, -3);
        due("compare(0, 1, 0)", y.compare(0, 1, 0), 1);
        due("compare(1, 0, 0)", y.compare(1, 0, 0), -1);
        for (int p : WRONG_POLICIES) {
            due("compare(" + p + ", 0, 0)", x.compare(p, 0, 0), -2);
            due("compare(0, " + p + ", 0)", x.compare(0, p, 0), -2);
            due("compare(" + p + ", " + p + ", 1)", x.compare(p, p, 1), -2);
        }
        for (int s : WRONG_STATES) {
            due("compare(0, 0, " + s + ")", x.compare(0, 0, s), -2);
            due("compare(0, 2, " + s + ")", x.compare(0, 2, s), -2);
        }
    }

    // Promise 13
    private static void refusedCallsChangeNothing() {
        String before = answers(mixed());
        PolicySolver x = mixed();
        for (int s : WRONG_STATES) {
            x.reward(s, 0, 9);
            x.shares(s, 1, TO_ALL);
            x.valueTop(0, s);
            x.valueBottom(0, s);
            x.bestTop(s);
            x.bestBottom(s);
            x.good(s, 0);
            x.compare(0, 1, s);
        }
        for (int a : WRONG_ACTIONS) {
            for (int s = 0; s < 4; s++) {
                x.reward(s, a, 9);
                x.shares(s, a, TO_ALL);
                x.good(s, a);
            }
        }
        for (int p : WRONG_POLICIES) {
            x.valueTop(p, 0);
            x.valueBottom(p, 0);
            x.compare(p, 0, 0);
            x.compare(0, p, 0);
        }
        due("answers unchanged by numbers out of range", answers(x).equals(before), true);
        PolicySolver y = mixed();
        for (int s = 0; s < 4; s++) {
            for (int a = 0; a < 2; a++) {
                for (int r : WRONG_REWARDS) {
                    y.reward(s, a, r);
                }
                for (int code : new int[] {-1, -500, 0, 1, 155, 157, 275, 499, 501, 624, 625, 629, 1125}) {
                    y.shares(s, a, code);
                }
            }
        }
        due("answers unchanged by refused rewards and shares", answers(y).equals(before), true);
    }
}
