/**
 * Each sentence of the document that names a boundary case has a test of its own here: the last number inside each
 * range, the first outside it on either side, the least and the greatest int. No object is used for more than 512
 * calls. That refused calls change nothing is looked at in RefusedTest.
 */
public final class BoundaryTest {
    private static final int LEAST = Integer.MIN_VALUE;
    private static final int GREATEST = Integer.MAX_VALUE;
    private static final int BAD = -1000000;

    // Beside the first numbers outside: those that come back into the range if an index is made of them with wrap-around.
    private static final int[] STATES_BELOW = {-1, -2, -3, -4, -5, -8, LEAST, LEAST + 1, LEAST + 3, -(1 << 30), -(1 << 29)};
    private static final int[] STATES_ABOVE = {4, 5, 6, 7, 8, 16, GREATEST, GREATEST - 1, 1 << 30, (1 << 30) + 3, 1 << 29, 1 << 28};
    private static final int[] ACTIONS_BELOW = {-1, -2, -3, -8, LEAST, LEAST + 1, -(1 << 30), -(1 << 29)};
    private static final int[] ACTIONS_ABOVE = {2, 3, 4, 7, 8, GREATEST, GREATEST - 1, 1 << 30, (1 << 30) + 1, 1 << 29};
    private static final int[] POLICIES_BELOW = {-1, -2, -15, -16, -17, LEAST, LEAST + 1, LEAST + 15, -(1 << 30), -(1 << 28)};
    private static final int[] POLICIES_ABOVE = {16, 17, 31, 32, 255, GREATEST, GREATEST - 1, 1 << 30, (1 << 30) + 15, 1 << 28};
    private static final int[] REWARDS_BELOW = {-21, -22, -40, -41, -276, LEAST, LEAST + 1, LEAST + 20, -(1 << 16), -(1 << 30)};
    private static final int[] REWARDS_ABOVE = {21, 22, 40, 41, 276, GREATEST, GREATEST - 1, GREATEST - 20, 1 << 16, 1 << 30};

    /** Every policy's values, numerator and denominator, state by state, in the process that known() makes. */
    private static final int[][] KNOWN = {
        {2, 1, 4, 1, 6, 1, 8, 1},
        {20, 7, 4, 1, 6, 1, 8, 1},
        {2, 1, 26, 7, 6, 1, 8, 1},
        {134, 49, 26, 7, 6, 1, 8, 1},
        {2, 1, 4, 1, 40, 7, 8, 1},
        {20, 7, 4, 1, 40, 7, 8, 1},
        {2, 1, 176, 49, 40, 7, 8, 1},
        {920, 343, 176, 49, 40, 7, 8, 1},
        {2, 1, 4, 1, 6, 1, 62, 7},
        {20, 7, 4, 1, 6, 1, 452, 49},
        {2, 1, 26, 7, 6, 1, 62, 7},
        {134, 49, 26, 7, 6, 1, 3146, 343},
        {2, 1, 4, 1, 298, 49, 62, 7},
        {20, 7, 4, 1, 2140, 343, 452, 49},
        {2, 1, 1286, 343, 298, 49, 62, 7},
        {161, 58, 221, 58, 361, 58, 533, 58}};
    private static final int KNOWN_BEST = 13;

    private static int wrong = 0;

    public static void main(String[] args) {
        everyActionOfANewObjectHasReward0();
        everyActionOfANewObjectStays();
        rewardRefusesStatesOutside0To3();
        rewardRefusesActionsOutside0To1();
        rewardRefusesRewardsOutside20();
        rewardTakesAllElse();
        sharesRefusesStatesOutside0To3();
        sharesRefusesActionsOutside0To1();
        sharesRefusesCodesBelow0();
        sharesRefusesAShare0Above4();
        sharesRefusesOtherSums();
        sharesTakesAllElse();
        valueTopAnswersInside();
        valueTopIsBadForPoliciesOutside();
        valueTopIsBadForStatesOutside();
        valueBottomAnswersInside();
        valueBottomIsBadForPoliciesOutside();
        valueBottomIsBadForStatesOutside();
        valuesReachBothEnds();
        fractionsAreInLowestTerms();
        numeratorsBeyond16Bits();
        bestTopAnswersInside();
        bestTopIsBadForStatesOutside();
        bestBottomAnswersInside();
        bestBottomIsBadForStatesOutside();
        policyFrom0To15();
        policiesFrom1To16();
        goodAnswersInside();
        goodIsFalseForStatesOutside();
        goodIsFalseForActionsOutside();
        pruneWithNothingToChange();
        pruneWithOneToFourToChange();
        pruneLeavesTiesThatDiffer();
        pruneCopiesRewardAndShares();
        compareAnswersInside();
        compareIsMinus2ForPOutside();
        compareIsMinus2ForQOutside();
        compareIsMinus2ForStatesOutside();
        compareTellsTheSmallestGaps();
        the512thCallAnswers();
        System.out.println(wrong == 0 ? "all boundaries hold" : wrong + " answers are not as due");
        if (wrong != 0) {
            System.exit(1);
        }
    }

    private static void due(String what, long got, long want) {
        if (got != want) {
            wrong++;
            System.out.println(what + " answered " + got + ", due is " + want);
        }
    }

    private static void due(String what, boolean got, boolean want) {
        due(what, got ? 1L : 0L, want ? 1L : 0L);
    }

    private static void dueValue(PolicySolver x, int p, int s, int top, int bottom) {
        due("valueTop(" + p + ", " + s + ")", x.valueTop(p, s), top);
        due("valueBottom(" + p + ", " + s + ")", x.valueBottom(p, s), bottom);
    }

    private static int[] both(int[] below, int[] above) {
        int[] all = java.util.Arrays.copyOf(below, below.length + above.length);
        System.arraycopy(above, 0, all, below.length, above.length);
        return all;
    }

    private static int[] wrongStates() {
        return both(STATES_BELOW, STATES_ABOVE);
    }

    private static int[] wrongActions() {
        return both(ACTIONS_BELOW, ACTIONS_ABOVE);
    }

    private static int[] wrongPolicies() {
        return both(POLICIES_BELOW, POLICIES_ABOVE);
    }

    private static int stay(int s) {
        return new int[] {500, 100, 20, 4}[s];
    }

    /** Action 0 stays; action 1 has share 1 for its own state and share 3 for the next one. Policy 13 alone is best. */
    private static PolicySolver known() {
        PolicySolver x = new PolicySolver();
        int[] rewards = {1, 1, 2, 1, 3, 2, 4, 7};
        int[] codes = {125 + 3 * 25, 25 + 3 * 5, 5 + 3, 1 + 3 * 125};
        for (int s = 0; s < 4; s++) {
            due("reward of known()", x.reward(s, 0, rewards[2 * s]), true);
            due("reward of known()", x.reward(s, 1, rewards[2 * s + 1]), true);
            due("shares of known()", x.shares(s, 1, codes[s]), true);
        }
        return x;
    }

    // Promise 1: "Every action has reward 0 and stays in its state for sure."
    private static void everyActionOfANewObjectHasReward0() {
        PolicySolver x = new PolicySolver();
        for (int p = 0; p < 16; p++) {
            for (int s = 0; s < 4; s++) {
                dueValue(x, p, s, 0, 1);
            }
        }
        due("policy() of a new object", x.policy(), 0);
        due("policies() of a new object", x.policies(), 16);
    }

    private static void everyActionOfANewObjectStays() {
        for (int s = 0; s < 4; s++) {
            for (int a = 0; a < 2; a++) {
                PolicySolver x = new PolicySolver();
                x.reward(s, a, 20);
                for (int p = 0; p < 16; p++) {
                    for (int t = 0; t < 4; t++) {
                        dueValue(x, p, t, t == s && (p >> s & 1) == a ? 40 : 0, 1);
                    }
                }
            }
        }
    }

    // Promise 2: "s outside 0..3 ...: refused, answers false"
    private static void rewardRefusesStatesOutside0To3() {
        for (int s : wrongStates()) {
            PolicySolver x = new PolicySolver();
            for (int a = -3; a <= 4; a++) {
                due("reward(" + s + ", " + a + ", 0)", x.reward(s, a, 0), false);
                due("reward(" + s + ", " + a + ", 20)", x.reward(s, a, 20), false);
                due("reward(" + s + ", " + a + ", -20)", x.reward(s, a, -20), false);
            }
        }
    }

    // Promise 2: "a outside 0..1 ...: refused, answers false"
    private static void rewardRefusesActionsOutside0To1() {
        for (int a : wrongActions()) {
            PolicySolver x = new PolicySolver();
            for (int s = -2; s <= 5; s++) {
                due("reward(" + s + ", " + a + ", 0)", x.reward(s, a, 0), false);
                due("reward(" + s + ", " + a + ", 20)", x.reward(s, a, 20), false);
                due("reward(" + s + ", " + a + ", -20)", x.reward(s, a, -20), false);
            }
        }
    }

    // Promise 2: "reward outside -20..20: refused, answers false"
    private static void rewardRefusesRewardsOutside20() {
        for (int r : both(REWARDS_BELOW, REWARDS_ABOVE)) {
            PolicySolver x = new PolicySolver();
            for (int s = 0; s < 4; s++) {
                due("reward(" + s + ", 0, " + r + ")", x.reward(s, 0, r), false);
                due("reward(" + s + ", 1, " + r + ")", x.reward(s, 1, r), false);
            }
            due("reward(-1, 0, " + r + ")", x.reward(-1, 0, r), false);
            due("reward(4, 2, " + r + ")", x.reward(4, 2, r), false);
        }
    }

    // Promise 2: "Else true."
    private static void rewardTakesAllElse() {
        for (int r : new int[] {-20, -19, -1, 0, 1, 19, 20}) {
            PolicySolver x = new PolicySolver();
            for (int s = 0; s < 4; s++) {
                for (int a = 0; a < 2; a++) {
                    due("reward(" + s + ", " + a + ", " + r + ")", x.reward(s, a, r), true);
                    due("again reward(" + s + ", " + a + ", " + r + ")", x.reward(s, a, r), true);
                    dueValue(x, a == 0 ? 0 : 15, s, 2 * r, 1);
                }
            }
        }
    }

    // Promise 3: "s outside 0..3 ...: refused, answers false"
    private static void sharesRefusesStatesOutside0To3() {
        for (int s : wrongStates()) {
            PolicySolver x = new PolicySolver();
            for (int a = -3; a <= 4; a++) {
                due("shares(" + s + ", " + a + ", 4)", x.shares(s, a, 4), false);
                due("shares(" + s + ", " + a + ", 156)", x.shares(s, a, 156), false);
                due("shares(" + s + ", " + a + ", 500)", x.shares(s, a, 500), false);
            }
        }
    }

    // Promise 3: "a outside 0..1 ...: refused, answers false"
    private static void sharesRefusesActionsOutside0To1() {
        for (int a : wrongActions()) {
            PolicySolver x = new PolicySolver();
            for (int s = -2; s <= 5; s++) {
                due("shares(" + s + ", " + a + ", 4)", x.shares(s, a, 4), false);
                due("shares(" + s + ", " + a + ", 156)", x.shares(s, a, 156), false);
                due("shares(" + s + ", " + a + ", 500)", x.shares(s, a, 500), false);
            }
        }
    }

    // Promise 3: "shares not made of numbers from 0 to 4": too small
    private static void sharesRefusesCodesBelow0() {
        PolicySolver x = new PolicySolver();
        for (int code = -1; code >= -300; code--) {
            due("shares(0, 0, " + code + ")", x.shares(0, 0, code), false);
        }
        PolicySolver y = new PolicySolver();
        for (int code : new int[] {-500, -501, -504, -620, -621, -624, -625, -629, -781, -1125, -1250, -(1 << 30), -(1 << 16)}) {
            due("shares(3, 1, " + code + ")", y.shares(3, 1, code), false);
        }
        for (int step = 0; step < 400; step++) {
            due("shares(1, 1, LEAST + " + step + ")", y.shares(1, 1, LEAST + step), false);
        }
    }

    // Promise 3: "shares not made of numbers from 0 to 4": too large. 625 is a share 0 of 5.
    private static void sharesRefusesAShare0Above4() {
        PolicySolver x = new PolicySolver();
        for (int code = 625; code < 1130; code++) {
            due("shares(3, 0, " + code + ")", x.shares(3, 0, code), false);
        }
        PolicySolver y = new PolicySolver();
        for (int step = 0; step < 400; step++) {
            due("shares(0, 0, GREATEST - " + step + ")", y.shares(0, 0, GREATEST - step), false);
        }
        // Their last four digits to the base 5 are those of 4, of 156 and of 500; or they are so after a cut to 16 bits.
        for (int code : new int[] {629, 781, 1125, 625 * 5 + 4, 625 * 3000 + 156, 625 * 3000000 + 500, 65536 + 4, 65536 * 9 + 500}) {
            due("shares(2, 1, " + code + ")", y.shares(2, 1, code), false);
        }
    }

    // Promise 3: "that sum to 4"
    private static void sharesRefusesOtherSums() {
        PolicySolver x = new PolicySolver();
        PolicySolver y = new PolicySolver();
        for (int code = 0; code < 625; code++) {
            if (shareSum(code) != 4) {
                PolicySolver z = code % 2 == 0 ? x : y;
                due("shares(2, 0, " + code + ")", z.shares(2, 0, code), false);
            }
        }
        // The least sum, 3, 5 and the greatest sum.
        PolicySolver last = new PolicySolver();
        for (int code : new int[] {0, 3, 15, 75, 375, 31, 155, 9, 21, 101, 157, 501, 505, 525, 624}) {
            due("shares(1, 1, " + code + ")", last.shares(1, 1, code), false);
        }
    }

    private static int shareSum(int code) {
        return code / 125 + code / 25 % 5 + code / 5 % 5 + code % 5;
    }

    // Promise 3: "Else true."
    private static void sharesTakesAllElse() {
        int taken = 0;
        for (int i = 0; i <= 4; i++) {
            for (int j = 0; i + j <= 4; j++) {
                for (int k = 0; i + j + k <= 4; k++) {
                    int[] share = {i, j, k, 4 - i - j - k};
                    takesShares(share);
                    taken++;
                }
            }
        }
        due("ways to share 4 among 4 states", taken, 35);
    }

    private static void takesShares(int[] share) {
        int code = 125 * share[0] + 25 * share[1] + 5 * share[2] + share[3];
        for (int s = 0; s < 4; s++) {
            for (int a = 0; a < 2; a++) {
                PolicySolver x = new PolicySolver();
                due("shares(" + s + ", " + a + ", " + code + ")", x.shares(s, a, code), true);
                for (int t = 0; t < 4; t++) {
                    if (t == s) {
                        continue;
                    }
                    // With state t worth 8 and the others worth 0: (8 - own share) * v = share t * 8
                    x.reward(t, 0, 4);
                    int top = x.valueTop(a << s, s);
                    int bottom = x.valueBottom(a << s, s);
                    due("value after shares(" + s + ", " + a + ", " + code + ")", top * (8 - share[s]), share[t] * 8 * bottom);
                    x.reward(t, 0, 0);
                }
            }
        }
    }

    // Promise 4: policy from 0 to 15, s from 0 to 3
    private static void valueTopAnswersInside() {
        PolicySolver x = known();
        for (int p = 0; p < 16; p++) {
            for (int s = 0; s < 4; s++) {
                due("valueTop(" + p + ", " + s + ")", x.valueTop(p, s), KNOWN[p][2 * s]);
            }
        }
    }

    // Promise 4: "BAD for policy outside 0..15"
    private static void valueTopIsBadForPoliciesOutside() {
        PolicySolver x = known();
        for (int p : wrongPolicies()) {
            for (int s = -2; s <= 5; s++) {
                due("valueTop(" + p + ", " + s + ")", x.valueTop(p, s), BAD);
            }
        }
    }

    // Promise 4: "BAD for ... s outside 0..3"
    private static void valueTopIsBadForStatesOutside() {
        for (int s : wrongStates()) {
            PolicySolver x = known();
            for (int p = -2; p <= 17; p++) {
                due("valueTop(" + p + ", " + s + ")", x.valueTop(p, s), BAD);
            }
        }
    }

    // Promise 5: policy from 0 to 15, s from 0 to 3
    private static void valueBottomAnswersInside() {
        PolicySolver x = known();
        for (int p = 0; p < 16; p++) {
            for (int s = 0; s < 4; s++) {
                due("valueBottom(" + p + ", " + s + ")", x.valueBottom(p, s), KNOWN[p][2 * s + 1]);
            }
        }
    }

    // Promise 5: "BAD for policy outside 0..15"
    private static void valueBottomIsBadForPoliciesOutside() {
        PolicySolver x = known();
        for (int p : wrongPolicies()) {
            for (int s = -2; s <= 5; s++) {
                due("valueBottom(" + p + ", " + s + ")", x.valueBottom(p, s), BAD);
            }
        }
    }

    // Promise 5: "BAD for ... s outside 0..3"
    private static void valueBottomIsBadForStatesOutside() {
        for (int s : wrongStates()) {
            PolicySolver x = known();
            for (int p = -2; p <= 17; p++) {
                due("valueBottom(" + p + ", " + s + ")", x.valueBottom(p, s), BAD);
            }
        }
    }

    // Terms: rewards from -20 to 20, so values from -40 to 40, whatever the shares are
    private static void valuesReachBothEnds() {
        for (int code = 0; code < 625; code++) {
            if (shareSum(code) != 4) {
                continue;
            }
            PolicySolver x = new PolicySolver();
            for (int s = 0; s < 4; s++) {
                x.shares(s, 0, code);
                x.shares(s, 1, 500);
                x.reward(s, 0, -20);
                x.reward(s, 1, 20);
            }
            for (int s = 0; s < 4; s++) {
                dueValue(x, 0, s, -40, 1);
                dueValue(x, 15, s, 40, 1);
                due("bestTop(" + s + ")", x.bestTop(s), 40);
                due("bestBottom(" + s + ")", x.bestBottom(s), 1);
            }
        }
    }

    // Terms: rewards near an end of their range and a large determinant, so that numerators in lowest terms pass 32767
    private static void numeratorsBeyond16Bits() {
        int[] nineteen = {36464, 915, 36208, 915, 7120, 183, 36328, 915};
        int[] eighteen = {36328, 915, 35816, 915, 6920, 183, 36056, 915};
        int[] codes = {4, 125 + 3 * 5, 3 * 125 + 1, 3 * 25 + 5};
        for (int sign = -1; sign <= 1; sign += 2) {
            PolicySolver x = new PolicySolver();
            for (int s = 0; s < 4; s++) {
                for (int a = 0; a < 2; a++) {
                    due("shares(" + s + ", " + a + ", " + codes[s] + ")", x.shares(s, a, codes[s]), true);
                    x.reward(s, a, s == 2 ? sign * (19 - a) : sign * 20);
                }
            }
            int[] best = sign < 0 ? eighteen : nineteen;
            for (int s = 0; s < 4; s++) {
                dueValue(x, 0, s, sign * nineteen[2 * s], nineteen[2 * s + 1]);
                dueValue(x, 4, s, sign * eighteen[2 * s], eighteen[2 * s + 1]);
                due("bestTop(" + s + ")", x.bestTop(s), sign * best[2 * s]);
                due("bestBottom(" + s + ")", x.bestBottom(s), best[2 * s + 1]);
                due("compare(0, 4, " + s + ")", x.compare(0, 4, s), sign);
                due("compare(15, 11, " + s + ")", x.compare(15, 11, s), -sign);
                due("compare(4, 15, " + s + ")", x.compare(4, 15, s), 0);
            }
            due("policy() with numerators beyond 16 bits", x.policy(), sign < 0 ? 4 : 0);
            due("policies() with numerators beyond 16 bits", x.policies(), 8);
        }
    }

    // Terms: "A fraction is written in lowest terms with a denominator above 0."
    private static void fractionsAreInLowestTerms() {
        int[] parts = {125, 25, 5, 1};
        for (int draw = 0; draw < 400; draw++) {
            PolicySolver x = new PolicySolver();
            int seed = draw * 7919 + 17;
            for (int s = 0; s < 4; s++) {
                for (int a = 0; a < 2; a++) {
                    seed = seed * 1103515245 + 12345;
                    x.reward(s, a, (seed >>> 8) % 41 - 20);
                    int code = parts[seed >>> 16 & 3] + parts[seed >>> 18 & 3] + parts[seed >>> 20 & 3] + parts[seed >>> 22 & 3];
                    due("shares(" + s + ", " + a + ", " + code + ")", x.shares(s, a, code), true);
                }
            }
            for (int p = 0; p < 16; p++) {
                for (int s = 0; s < 4; s++) {
                    dueLowest("value of " + p + " in " + s, x.valueTop(p, s), x.valueBottom(p, s));
                }
            }
            for (int s = 0; s < 4; s++) {
                dueLowest("best value in " + s, x.bestTop(s), x.bestBottom(s));
            }
        }
    }

    private static void dueLowest(String what, int top, int bottom) {
        due("denominator above 0 of the " + what, bottom > 0, true);
        int large = Math.abs(top);
        int small = bottom;
        while (small != 0) {
            int rest = large % small;
            large = small;
            small = rest;
        }
        due("common divisor of the " + what, large, 1);
    }

    // Promise 6: s from 0 to 3
    private static void bestTopAnswersInside() {
        PolicySolver x = known();
        for (int s = 0; s < 4; s++) {
            due("bestTop(" + s + ")", x.bestTop(s), KNOWN[KNOWN_BEST][2 * s]);
        }
    }

    // Promise 6: "BAD for s outside 0..3"
    private static void bestTopIsBadForStatesOutside() {
        PolicySolver x = new PolicySolver();
        PolicySolver y = known();
        for (int s : wrongStates()) {
            due("bestTop(" + s + ")", x.bestTop(s), BAD);
            due("bestTop(" + s + ")", y.bestTop(s), BAD);
        }
    }

    // Promise 7: s from 0 to 3
    private static void bestBottomAnswersInside() {
        PolicySolver x = known();
        for (int s = 0; s < 4; s++) {
            due("bestBottom(" + s + ")", x.bestBottom(s), KNOWN[KNOWN_BEST][2 * s + 1]);
        }
    }

    // Promise 7: "BAD for s outside 0..3"
    private static void bestBottomIsBadForStatesOutside() {
        PolicySolver x = new PolicySolver();
        PolicySolver y = known();
        for (int s : wrongStates()) {
            due("bestBottom(" + s + ")", x.bestBottom(s), BAD);
            due("bestBottom(" + s + ")", y.bestBottom(s), BAD);
        }
    }

    // Promise 8: every number from 0 to 15 can be the smallest best policy
    private static void policyFrom0To15() {
        for (int best = 0; best < 16; best++) {
            PolicySolver x = new PolicySolver();
            PolicySolver tied = new PolicySolver();
            for (int s = 0; s < 4; s++) {
                x.reward(s, best >> s & 1, 1);
                if ((best >> s & 1) == 1) {
                    tied.reward(s, 1, 1);
                }
            }
            due("policy() with " + best + " alone best", x.policy(), best);
            due("policies() with " + best + " alone best", x.policies(), 1);
            due("policy() with ties where the bit is 0", tied.policy(), best);
        }
    }

    // Promise 9: from one best policy to all 16
    private static void policiesFrom1To16() {
        for (int decided = 0; decided < 16; decided++) {
            PolicySolver x = new PolicySolver();
            for (int s = 0; s < 4; s++) {
                if ((decided >> s & 1) == 1) {
                    x.reward(s, s & 1, -1);
                }
            }
            due("policies() with the states " + decided + " decided", x.policies(), 16 >> Integer.bitCount(decided));
        }
        due("policies() of known()", known().policies(), 1);
        due("policy() of known()", known().policy(), KNOWN_BEST);
    }

    // Promise 10: s from 0 to 3, a from 0 to 1
    private static void goodAnswersInside() {
        PolicySolver x = known();
        PolicySolver y = new PolicySolver();
        for (int s = 0; s < 4; s++) {
            for (int a = 0; a < 2; a++) {
                due("good(" + s + ", " + a + ")", x.good(s, a), (KNOWN_BEST >> s & 1) == a);
                due("new good(" + s + ", " + a + ")", y.good(s, a), true);
            }
        }
    }

    // Promise 10: "false for s outside 0..3". In a new object every action inside is good.
    private static void goodIsFalseForStatesOutside() {
        PolicySolver x = new PolicySolver();
        for (int s : wrongStates()) {
            for (int a = -3; a <= 4; a++) {
                due("good(" + s + ", " + a + ")", x.good(s, a), false);
            }
        }
    }

    // Promise 10: "false for ... a outside 0..1"
    private static void goodIsFalseForActionsOutside() {
        PolicySolver x = new PolicySolver();
        for (int a : wrongActions()) {
            for (int s = -2; s <= 5; s++) {
                due("good(" + s + ", " + a + ")", x.good(s, a), false);
            }
        }
    }

    // Promise 11: "every action that no best policy names": none
    private static void pruneWithNothingToChange() {
        PolicySolver x = new PolicySolver();
        due("prune() of a new object", x.prune(), 0);
        due("policies() after it", x.policies(), 16);
        for (int s = 0; s < 4; s++) {
            x.reward(s, 0, -20);
            x.reward(s, 1, -20);
        }
        due("prune() with like actions", x.prune(), 0);
        for (int s = 0; s < 4; s++) {
            dueValue(x, 0, s, -40, 1);
            dueValue(x, 15, s, -40, 1);
        }
        PolicySolver y = known();
        y.prune();
        due("prune() after prune()", y.prune(), 0);
        due("prune() after that", y.prune(), 0);
    }

    // Promise 11: "Answers how many actions were changed by it.": in each state none, action 0 or action 1
    private static void pruneWithOneToFourToChange() {
        for (int kinds = 0; kinds < 81; kinds++) {
            PolicySolver x = new PolicySolver();
            int[] worth = new int[4];
            int changed = 0;
            int rest = kinds;
            for (int s = 0; s < 4; s++) {
                int kind = rest % 3;
                rest /= 3;
                if (kind != 2) {
                    x.reward(s, kind, -1 - s);
                    x.shares(s, kind, 156);
                    x.reward(s, 1 - kind, 5 + s);
                    worth[s] = 10 + 2 * s;
                    changed++;
                }
            }
            due("prune() of kinds " + kinds, x.prune(), changed);
            due("policies() after prune() of kinds " + kinds, x.policies(), 16);
            for (int p = 0; p < 16; p++) {
                for (int s = 0; s < 4; s++) {
                    dueValue(x, p, s, worth[s], 1);
                }
            }
            due("prune() again", x.prune(), 0);
        }
    }

    // Promise 11: actions that differ but are both named by best policies stay as they are
    private static void pruneLeavesTiesThatDiffer() {
        PolicySolver x = new PolicySolver();
        // State 3 is worth 8; in the others: 2 and stay, or 0 and on to state 3, are both worth 4.
        x.reward(3, 0, 4);
        x.reward(3, 1, 4);
        for (int s = 0; s < 3; s++) {
            x.reward(s, 0, 2);
            x.shares(s, 1, 4);
        }
        due("policies() with ties that differ", x.policies(), 16);
        due("prune() with ties that differ", x.prune(), 0);
        x.reward(3, 0, 5);
        due("prune() with state 3 decided and better", x.prune(), 4);
        for (int s = 0; s < 3; s++) {
            dueValue(x, 0, s, 5, 1);
            dueValue(x, 15, s, 5, 1);
        }
        PolicySolver y = new PolicySolver();
        y.reward(3, 0, 4);
        y.reward(3, 1, -4);
        for (int s = 0; s < 3; s++) {
            y.reward(s, 0, 2);
            y.shares(s, 1, 4);
        }
        due("prune() with one to change beside three ties", y.prune(), 1);
        y.reward(3, 0, 8);
        y.reward(3, 1, 8);
        for (int s = 0; s < 3; s++) {
            dueValue(y, 0, s, 4, 1);
            dueValue(y, 15, s, 8, 1);
        }
    }

    // Promise 11: "a copy (reward and shares) of the state's other action"
    private static void pruneCopiesRewardAndShares() {
        for (int s = 0; s < 4; s++) {
            for (int a = 0; a < 2; a++) {
                for (int t = 0; t < 4; t++) {
                    PolicySolver x = new PolicySolver();
                    x.reward(s, a, -20);
                    x.reward(s, 1 - a, 3);
                    x.shares(s, 1 - a, stay(t));
                    due("prune() of one", x.prune(), 1);
                    if (t != s) {
                        // Only shares that were copied as well bring in what state t is worth from now on.
                        x.reward(t, 0, 10);
                        x.reward(t, 1, 10);
                    }
                    dueValue(x, a << s, s, t == s ? 6 : 13, 1);
                    dueValue(x, (1 - a) << s, s, t == s ? 6 : 13, 1);
                    due("policies() after prune() of one", x.policies(), 16);
                }
            }
        }
    }

    // Promise 12: p and q from 0 to 15, s from 0 to 3
    private static void compareAnswersInside() {
        for (int p = 0; p < 16; p++) {
            PolicySolver x = known();
            for (int q = 0; q < 16; q++) {
                for (int s = 0; s < 4; s++) {
                    int left = KNOWN[p][2 * s] * KNOWN[q][2 * s + 1];
                    int right = KNOWN[q][2 * s] * KNOWN[p][2 * s + 1];
                    due("compare(" + p + ", " + q + ", " + s + ")", x.compare(p, q, s), Integer.compare(left, right));
                }
            }
        }
    }

    // Promise 12: "-2 if a number is out of range": p
    private static void compareIsMinus2ForPOutside() {
        for (int p : wrongPolicies()) {
            PolicySolver x = known();
            for (int s = -1; s <= 4; s++) {
                due("compare(" + p + ", 0, " + s + ")", x.compare(p, 0, s), -2);
                due("compare(" + p + ", 15, " + s + ")", x.compare(p, 15, s), -2);
                due("compare(" + p + ", " + p + ", " + s + ")", x.compare(p, p, s), -2);
            }
        }
    }

    // Promise 12: "-2 if a number is out of range": q
    private static void compareIsMinus2ForQOutside() {
        for (int q : wrongPolicies()) {
            PolicySolver x = known();
            for (int s = -1; s <= 4; s++) {
                due("compare(0, " + q + ", " + s + ")", x.compare(0, q, s), -2);
                due("compare(15, " + q + ", " + s + ")", x.compare(15, q, s), -2);
            }
        }
    }

    // Promise 12: "-2 if a number is out of range": s
    private static void compareIsMinus2ForStatesOutside() {
        for (int s : wrongStates()) {
            PolicySolver x = known();
            for (int p = -1; p <= 16; p++) {
                due("compare(" + p + ", " + p + ", " + s + ")", x.compare(p, p, s), -2);
                due("compare(" + p + ", 7, " + s + ")", x.compare(p, 7, s), -2);
                due("compare(8, " + p + ", " + s + ")", x.compare(8, p, s), -2);
            }
        }
    }

    // Promise 12: values that are next to each other, at the far ends of what a value can be
    private static void compareTellsTheSmallestGaps() {
        for (int sign = -1; sign <= 1; sign += 2) {
            PolicySolver x = new PolicySolver();
            for (int s = 0; s < 4; s++) {
                x.reward(s, 0, sign * 20);
                x.reward(s, 1, sign * 20);
            }
            // A ring with few shares onward, so that one reward less counts little in state 0.
            for (int a = 0; a < 2; a++) {
                x.shares(0, a, 3 * 125 + 25);
                x.shares(1, a, 3 * 25 + 5);
                x.shares(2, a, 3 * 5 + 1);
                x.shares(3, a, 125 + 3);
            }
            due("compare(0, 8, 0) of like actions", x.compare(0, 8, 0), 0);
            x.reward(3, 1, sign * 19);
            // det = 5^4 - 1; in state 0 the ring weighs state 3's reward with 1/5^3 of what it weighs at home.
            due("compare(0, 8, 0)", x.compare(0, 8, 0), sign);
            due("compare(8, 0, 0)", x.compare(8, 0, 0), -sign);
            due("compare(15, 0, 0)", x.compare(15, 0, 0), -sign);
            due("compare(7, 0, 0)", x.compare(7, 0, 0), 0);
            // v0 = 40 - 8 / 624
            dueValue(x, 8, 0, sign * 3119, 78);
        }
    }

    // What it is: "An object is used for at most 512 calls after it has been made"
    private static void the512thCallAnswers() {
        PolicySolver x = new PolicySolver();
        for (int call = 1; call <= 511; call++) {
            due("reward, call " + call, x.reward(3, 1, call % 41 - 20), true);
        }
        due("valueTop as 512th call", x.valueTop(8, 3), 2 * (511 % 41 - 20));
        PolicySolver y = new PolicySolver();
        for (int call = 1; call <= 511; call++) {
            due("shares, call " + call, y.shares(4, 0, 4), false);
        }
        due("shares as 512th call", y.shares(3, 1, 500), true);
        PolicySolver z = known();
        for (int call = 13; call <= 511; call++) {
            due("policy(), call " + call, z.policy(), KNOWN_BEST);
        }
        due("prune() as 512th call", z.prune(), 4);
        PolicySolver w = new PolicySolver();
        for (int call = 1; call <= 512; call++) {
            due("prune(), call " + call, w.prune(), 0);
        }
    }
}
