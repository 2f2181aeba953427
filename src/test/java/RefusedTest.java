import java.util.ArrayList;
import java.util.List;
import java.util.function.ToLongFunction;

/**
 * Promise 13: "A call that is refused, because a number is not as said there, something is not there, or a limit is
 * reached, changes nothing." Every kind of refused call is made alone on a process, and the process is then looked at
 * with the other calls, beside one that the call was not made on.
 */
public final class RefusedTest {
    private static final int LEAST = Integer.MIN_VALUE;
    private static final int GREATEST = Integer.MAX_VALUE;
    private static final int BAD = -1000000;
    private static final int[] WRONG_STATES = {-1, -2, -4, 4, 5, 8, LEAST, LEAST + 1, GREATEST, 1 << 30, 1 << 29};
    private static final int[] WRONG_ACTIONS = {-1, -2, 2, 3, 8, LEAST, LEAST + 1, GREATEST, 1 << 30};
    private static final int[] WRONG_POLICIES = {-1, -16, 16, 17, 31, LEAST, LEAST + 1, GREATEST, 1 << 30, 1 << 28};
    private static final int[] WRONG_REWARDS = {-21, 21, -22, 22, -40, 40, 276, LEAST, GREATEST, 1 << 16};
    // Below 0; sums of 0, 3, 5 and 16; a share 0 of 5, alone and with the digits of codes that are taken.
    private static final int[] WRONG_SHARES = {
        -1, -4, -156, -500, LEAST, 0, 3, 155, 375, 9, 157, 501, 525, 624, 625, 629, 781, 1125, 65536 + 4, GREATEST};
    private static final int PROCESSES = 4;
    private static final int LOOKS = 4;

    private record Call(String name, ToLongFunction<PolicySolver> made, long answer) {
    }

    private static int wrong = 0;

    public static void main(String[] args) {
        String[] untouched = untouched();
        oneByOne("reward, a wrong state", rewardsOfWrongStates(), untouched);
        oneByOne("reward, a wrong action", rewardsOfWrongActions(), untouched);
        oneByOne("reward, a wrong reward", wrongRewards(), untouched);
        oneByOne("shares, a wrong state", sharesOfWrongStates(), untouched);
        oneByOne("shares, a wrong action", sharesOfWrongActions(), untouched);
        oneByOne("shares, wrong shares", wrongShares(), untouched);
        oneByOne("valueTop and valueBottom, a wrong policy", valuesOfWrongPolicies(), untouched);
        oneByOne("valueTop and valueBottom, a wrong state", valuesOfWrongStates(), untouched);
        oneByOne("bestTop and bestBottom, a wrong state", bestsOfWrongStates(), untouched);
        oneByOne("good, a wrong state", goodOfWrongStates(), untouched);
        oneByOne("good, a wrong action", goodOfWrongActions(), untouched);
        oneByOne("compare, a wrong p", compareOfWrongP(), untouched);
        oneByOne("compare, a wrong q", compareOfWrongQ(), untouched);
        oneByOne("compare, a wrong state", compareOfWrongStates(), untouched);
        allInARow(untouched);
        questionsChangeNothing(untouched);
        pruneWithNothingToDoChangesNothing();
        System.out.println(wrong == 0 ? "refused calls change nothing" : wrong + " answers are not as due");
        if (wrong != 0) {
            System.exit(1);
        }
    }

    private static void due(String what, long got, long want) {
        if (got != want) {
            wrong++;
            System.out.println(what + " answered " + got + ", due is " + want);
        }
    }

    private static void dueSame(String what, String got, String want) {
        if (!got.equals(want)) {
            wrong++;
            System.out.println("after " + what + " the object answers " + got + ", due is " + want);
        }
    }

    private static int yes(boolean answer) {
        return answer ? 1 : 0;
    }

    private static void reward(PolicySolver x, int s, int a, int r) {
        due("reward(" + s + ", " + a + ", " + r + ")", yes(x.reward(s, a, r)), 1);
    }

    private static void shares(PolicySolver x, int s, int a, int code) {
        due("shares(" + s + ", " + a + ", " + code + ")", yes(x.shares(s, a, code)), 1);
    }

    // A new object; one best policy; ties between actions that differ; what prune leaves.
    private static PolicySolver process(int number) {
        PolicySolver x = new PolicySolver();
        if (number == 1 || number == 3) {
            int[] rewards = {1, 1, 2, 1, 3, 2, 4, 7};
            int[] codes = {125 + 3 * 25, 25 + 3 * 5, 5 + 3, 1 + 3 * 125};
            for (int s = 0; s < 4; s++) {
                reward(x, s, 0, rewards[2 * s]);
                reward(x, s, 1, rewards[2 * s + 1]);
                shares(x, s, 1, codes[s]);
            }
        }
        if (number == 2) {
            reward(x, 3, 0, 4);
            reward(x, 3, 1, -20);
            for (int s = 0; s < 3; s++) {
                reward(x, s, 0, 2);
                shares(x, s, 1, 4);
            }
        }
        if (number == 3) {
            x.prune();
        }
        return x;
    }

    /** At once, after other rewards (which bring the shares to light), after other shares, and after prune. */
    private static String look(PolicySolver x, int kind) {
        String first = "";
        for (int s = 0; s < 4; s++) {
            if (kind == 1) {
                reward(x, s, 0, new int[] {-17, 5, 11, 20}[s]);
                reward(x, s, 1, new int[] {13, -3, 7, -19}[s]);
            }
            if (kind == 2) {
                shares(x, s, 0, new int[] {156, 276, 280, 256}[s]);
                shares(x, s, 1, new int[] {20, 4, 500, 100}[s]);
            }
        }
        if (kind == 3) {
            first = "prune() " + x.prune() + ' ';
        }
        return first + answers(x);
    }

    private static String answers(PolicySolver x) {
        StringBuilder text = new StringBuilder();
        for (int p = 0; p < 16; p++) {
            for (int s = 0; s < 4; s++) {
                text.append(x.valueTop(p, s)).append('/').append(x.valueBottom(p, s)).append(' ');
                text.append(x.compare(p, 15 - p, s)).append(' ');
            }
        }
        for (int s = 0; s < 4; s++) {
            text.append(x.bestTop(s)).append('/').append(x.bestBottom(s)).append(' ');
            text.append(x.good(s, 0)).append(' ').append(x.good(s, 1)).append(' ');
        }
        return text.append(x.policy()).append(' ').append(x.policies()).toString();
    }

    private static String[] untouched() {
        String[] looks = new String[PROCESSES * LOOKS];
        for (int i = 0; i < looks.length; i++) {
            looks[i] = look(process(i / LOOKS), i % LOOKS);
        }
        return looks;
    }

    private static void oneByOne(String kind, List<Call> calls, String[] untouched) {
        for (Call call : calls) {
            for (int i = 0; i < untouched.length; i++) {
                PolicySolver x = process(i / LOOKS);
                due(kind + ": " + call.name, call.made.applyAsLong(x), call.answer);
                dueSame(kind + ": " + call.name, look(x, i % LOOKS), untouched[i]);
            }
        }
    }

    private static void add(List<Call> calls, String name, long answer, ToLongFunction<PolicySolver> made) {
        calls.add(new Call(name, made, answer));
    }

    private static List<Call> rewardsOfWrongStates() {
        List<Call> calls = new ArrayList<>();
        for (int s : WRONG_STATES) {
            for (int a = -1; a <= 2; a++) {
                int action = a;
                add(calls, "reward(" + s + ", " + a + ", 9)", 0, x -> yes(x.reward(s, action, 9)));
            }
        }
        return calls;
    }

    private static List<Call> rewardsOfWrongActions() {
        List<Call> calls = new ArrayList<>();
        for (int a : WRONG_ACTIONS) {
            for (int s = 0; s < 4; s++) {
                int state = s;
                add(calls, "reward(" + s + ", " + a + ", -9)", 0, x -> yes(x.reward(state, a, -9)));
            }
        }
        return calls;
    }

    private static List<Call> wrongRewards() {
        List<Call> calls = new ArrayList<>();
        for (int r : WRONG_REWARDS) {
            for (int choice = 0; choice < 8; choice++) {
                int s = choice / 2;
                int a = choice % 2;
                add(calls, "reward(" + s + ", " + a + ", " + r + ")", 0, x -> yes(x.reward(s, a, r)));
            }
        }
        return calls;
    }

    private static List<Call> sharesOfWrongStates() {
        List<Call> calls = new ArrayList<>();
        for (int s : WRONG_STATES) {
            for (int a = -1; a <= 2; a++) {
                int action = a;
                add(calls, "shares(" + s + ", " + a + ", 156)", 0, x -> yes(x.shares(s, action, 156)));
            }
        }
        return calls;
    }

    private static List<Call> sharesOfWrongActions() {
        List<Call> calls = new ArrayList<>();
        for (int a : WRONG_ACTIONS) {
            for (int s = 0; s < 4; s++) {
                int state = s;
                add(calls, "shares(" + s + ", " + a + ", 156)", 0, x -> yes(x.shares(state, a, 156)));
            }
        }
        return calls;
    }

    private static List<Call> wrongShares() {
        List<Call> calls = new ArrayList<>();
        for (int code : WRONG_SHARES) {
            for (int choice = 0; choice < 8; choice++) {
                int s = choice / 2;
                int a = choice % 2;
                add(calls, "shares(" + s + ", " + a + ", " + code + ")", 0, x -> yes(x.shares(s, a, code)));
            }
        }
        return calls;
    }

    private static List<Call> valuesOfWrongPolicies() {
        List<Call> calls = new ArrayList<>();
        for (int p : WRONG_POLICIES) {
            for (int s : new int[] {0, 3}) {
                add(calls, "valueTop(" + p + ", " + s + ")", BAD, x -> x.valueTop(p, s));
                add(calls, "valueBottom(" + p + ", " + s + ")", BAD, x -> x.valueBottom(p, s));
            }
        }
        return calls;
    }

    private static List<Call> valuesOfWrongStates() {
        List<Call> calls = new ArrayList<>();
        for (int s : WRONG_STATES) {
            for (int p : new int[] {0, 15}) {
                add(calls, "valueTop(" + p + ", " + s + ")", BAD, x -> x.valueTop(p, s));
                add(calls, "valueBottom(" + p + ", " + s + ")", BAD, x -> x.valueBottom(p, s));
            }
        }
        return calls;
    }

    private static List<Call> bestsOfWrongStates() {
        List<Call> calls = new ArrayList<>();
        for (int s : WRONG_STATES) {
            add(calls, "bestTop(" + s + ")", BAD, x -> x.bestTop(s));
            add(calls, "bestBottom(" + s + ")", BAD, x -> x.bestBottom(s));
        }
        return calls;
    }

    private static List<Call> goodOfWrongStates() {
        List<Call> calls = new ArrayList<>();
        for (int s : WRONG_STATES) {
            add(calls, "good(" + s + ", 0)", 0, x -> yes(x.good(s, 0)));
            add(calls, "good(" + s + ", 1)", 0, x -> yes(x.good(s, 1)));
        }
        return calls;
    }

    private static List<Call> goodOfWrongActions() {
        List<Call> calls = new ArrayList<>();
        for (int a : WRONG_ACTIONS) {
            add(calls, "good(0, " + a + ")", 0, x -> yes(x.good(0, a)));
            add(calls, "good(3, " + a + ")", 0, x -> yes(x.good(3, a)));
        }
        return calls;
    }

    private static List<Call> compareOfWrongP() {
        List<Call> calls = new ArrayList<>();
        for (int p : WRONG_POLICIES) {
            add(calls, "compare(" + p + ", 0, 0)", -2, x -> x.compare(p, 0, 0));
            add(calls, "compare(" + p + ", " + p + ", 3)", -2, x -> x.compare(p, p, 3));
        }
        return calls;
    }

    private static List<Call> compareOfWrongQ() {
        List<Call> calls = new ArrayList<>();
        for (int q : WRONG_POLICIES) {
            add(calls, "compare(0, " + q + ", 0)", -2, x -> x.compare(0, q, 0));
            add(calls, "compare(15, " + q + ", 3)", -2, x -> x.compare(15, q, 3));
        }
        return calls;
    }

    private static List<Call> compareOfWrongStates() {
        List<Call> calls = new ArrayList<>();
        for (int s : WRONG_STATES) {
            add(calls, "compare(0, 15, " + s + ")", -2, x -> x.compare(0, 15, s));
            add(calls, "compare(15, 15, " + s + ")", -2, x -> x.compare(15, 15, s));
        }
        return calls;
    }

    // Refused calls do not add up to a change either.
    private static void allInARow(String[] untouched) {
        List<Call> calls = new ArrayList<>();
        calls.addAll(wrongRewards());
        calls.addAll(wrongShares());
        for (int i = 0; i < untouched.length; i++) {
            PolicySolver x = process(i / LOOKS);
            for (Call call : calls) {
                due(call.name, call.made.applyAsLong(x), call.answer);
            }
            dueSame("all refused rewards and shares", look(x, i % LOOKS), untouched[i]);
        }
    }

    private static void questionsChangeNothing(String[] untouched) {
        for (int i = 0; i < untouched.length; i++) {
            PolicySolver x = process(i / LOOKS);
            answers(x);
            dueSame("questions alone", look(x, i % LOOKS), untouched[i]);
        }
    }

    // An object that was pruned has no action left to change.
    private static void pruneWithNothingToDoChangesNothing() {
        for (int i = 0; i < PROCESSES * LOOKS; i++) {
            PolicySolver once = process(i / LOOKS);
            PolicySolver twice = process(i / LOOKS);
            once.prune();
            twice.prune();
            due("prune() again", twice.prune(), 0);
            dueSame("prune() again", look(twice, i % LOOKS), look(once, i % LOOKS));
        }
    }
}
