import java.util.ArrayList;
import java.util.HashMap;
import java.util.List;
import java.util.Map;
import java.util.function.Consumer;
import java.util.function.ToLongFunction;
import java.util.stream.IntStream;

/** The sections "What it is" and "Terms": each sentence that names a boundary case has a method of its own. */
public final class TermsTest extends Walks {
    private record Probe(ToLongFunction<ChanceForests> call, long want) {
    }

    private static final Map<Integer, List<Probe>> PROBES = new HashMap<>();

    public static void main(String[] args) {
        callsUpTo512();
        statesFromZero();
        atMostTwoActions();
        oneToThreeWays();
        nextPerhapsTheSame();
        sameNextSeveralTimes();
        sharesOneToNine();
        chanceOfAWay();
        allStillAtFirst();
        noGoalAtFirst();
        planChoosesForEveryState();
        oneForGoals();
        zeroForStillStates();
        zeroWhereNoGoalIsComeTo();
        longestPaths();
        sumForAllOthers();
        greatestUnderAPlan();
        leastUnderAPlan();
        plansForAllAtOnce();
        lowestTerms();
        zeroIsZeroOfOne();
        questionsChangeNothing();
        refusedCallsChangeNothing();
        testsInOrder();
        goodStates();
        Due.end();
    }

    /** "An object is used for at most 512 calls after it has been made": the 512th still counts. */
    private static void callsUpTo512() {
        List<ToLongFunction<ChanceForests>> last = List.of(
            x -> x.states(), x -> x.way(3, 0, to(2, 1)), x -> x.still(1), x -> x.goal(2, 0), x -> x.actions(0),
            x -> x.chanceTop(0, 0), x -> x.chanceBottom(0, 0), x -> x.bestTop(1), x -> x.bestBottom(0),
            x -> x.worstTop(1), x -> x.worstBottom(1), x -> x.bestPlan(), x -> x.sure(), x -> x.hopeless(),
            x -> x.forced(), x -> x.compare(0, 1));
        long[] want = {4, 1, 2, 1, 2, 1, 12, 2, 3, 1, 3, 3, 4, 8, 7, 2};
        for (int i = 0; i < want.length; i++) {
            // Nine calls made these choices; four more make and unmake a choice of the still state.
            ChanceForests x = twoChoices();
            int calls = 9;
            for (; calls + 4 < 512; calls += 4) {
                Due.due("call " + (calls + 1), x.way(3, 0, to(2, 9)), 1);
                Due.due("call " + (calls + 2), x.way(3, 1, to(3, 9)), 1);
                Due.due("call " + (calls + 3), x.bestTop(3), 1);
                Due.due("call " + (calls + 4), x.still(3), 2);
            }
            for (; calls < 511; calls++) {
                Due.due("call " + (calls + 1), x.goal(2, 1), 1);
            }
            Due.due("call 512, of kind " + i, last.get(i).applyAsLong(x), want[i]);
        }
    }

    /** "There are n STATES, 0 .. n-1." */
    private static void statesFromZero() {
        for (int n = 2; n <= 6; n++) {
            ChanceForests x = new ChanceForests(n);
            for (int s = 0; s < n; s++) {
                Due.due("state " + s + " of " + n + " is there", x.goal(s, 1), 0);
            }
            Due.due("all " + n + " states, and no other one", x.sure(), all(n));
        }
    }

    /** "Every state has at most two ACTIONS, 0 and 1" */
    private static void atMostTwoActions() {
        for (int n = 2; n <= 6; n++) {
            ChanceForests x = new ChanceForests(n);
            for (int s = 0; s < n; s++) {
                Due.due("action 0 of " + s, x.way(s, 0, 1), 1);
                Due.due("action 1 of " + s, x.way(s, 1, 1), 1);
                Due.due("action 2 of " + s, x.way(s, 2, 1), -2);
            }
            for (int s = 0; s < n; s++) {
                Due.due("actions of " + s, x.actions(s), 2);
            }
        }
    }

    /** "an action is a list of one to three WAYS" */
    private static void oneToThreeWays() {
        for (int n = 3; n <= 6; n++) {
            for (int s = 0; s < n - 2; s++) {
                for (int action = 0; action < 2; action++) {
                    threeWays(n, s, action);
                }
            }
        }
    }

    private static void threeWays(int n, int s, int action) {
        ChanceForests x = new ChanceForests(n);
        x.goal(n - 1, 1);
        if (action == 1) {
            x.way(s, 0, to(n - 2, 1));
        }
        int plan = action << s;
        x.way(s, action, to(n - 1, 2));
        dueChance("one way", x, s, plan, 1, 1);
        x.way(s, action, to(n - 2, 3));
        dueChance("two ways", x, s, plan, 2, 5);
        x.way(s, action, to(n - 1, 5));
        dueChance("three ways", x, s, plan, 7, 10);
        x.way(s, action, to(n - 2, 9));
        dueChance("no fourth way", x, s, plan, 7, 10);
    }

    /** "each with a next state (perhaps the same one ...)" */
    private static void nextPerhapsTheSame() {
        for (int n = 2; n <= 6; n++) {
            ChanceForests x = new ChanceForests(n);
            for (int s = 0; s < n; s++) {
                Due.due("a way from " + s + " to itself", x.way(s, 0, to(s, 9)), 1);
                dueChance("to itself for ever", x, s, 0, 0, 1);
            }
        }
        ChanceForests x = oneStep(3, 1, 2);
        x.way(0, 0, to(0, 9));
        dueChance("staying for a while", x, 0, 0, 1, 3);
        ChanceForests y = new ChanceForests(2);
        y.goal(1, 1);
        y.way(0, 0, to(0, 9));
        y.way(0, 0, to(0, 9));
        y.way(0, 0, to(1, 1));
        dueChance("staying for long, but not for ever", y, 0, 0, 1, 1);
    }

    /** "(... and the same next state may occur several times)" */
    private static void sameNextSeveralTimes() {
        ChanceForests x = new ChanceForests(3);
        x.goal(2, 1);
        x.way(0, 0, to(2, 1));
        x.way(0, 0, to(1, 5));
        Due.due("the same next state again", x.way(0, 0, to(2, 2)), 3);
        dueChance("the goal twice", x, 0, 0, 3, 8);
        Due.due("the same next state", x.way(0, 1, to(2, 4)), 1);
        Due.due("the same way again", x.way(0, 1, to(2, 4)), 2);
        Due.due("the same way a third time", x.way(0, 1, to(2, 4)), 3);
        dueChance("the goal three times", x, 0, 1, 1, 1);
        x.still(0);
        x.way(0, 0, to(1, 1));
        x.way(0, 0, to(1, 1));
        x.way(0, 0, to(2, 1));
        dueChance("the still state twice", x, 0, 0, 1, 3);
    }

    /** "and a SHARE 1 .. 9" */
    private static void sharesOneToNine() {
        for (int share = 1; share <= 9; share++) {
            ChanceForests x = new ChanceForests(3);
            x.goal(2, 1);
            Due.due("share " + share, x.way(0, 0, to(2, share)), 1);
            dueChance("the only way, share " + share, x, 0, 0, 1, 1);
        }
    }

    /** "the CHANCE of a way is its share divided by the sum of the shares of the action's ways." */
    private static void chanceOfAWay() {
        for (int a = 1; a <= 9; a++) {
            for (int b = 1; b <= 9; b++) {
                int common = a;
                while (a % common != 0 || b % common != 0) {
                    common--;
                }
                ChanceForests x = oneStep(3, a, b);
                dueChance("shares " + a + " and " + b, x, 0, 0, a / common, (a + b) / common);
                // The other action's shares are not part of the sum.
                x.way(0, 1, to(2, 9));
                dueChance("shares " + a + " and " + b, x, 0, 0, a / common, (a + b) / common);
            }
        }
        ChanceForests x = oneStep(3, 9, 9);
        x.way(0, 0, to(1, 9));
        dueChance("the greatest sum", x, 0, 0, 1, 3);
    }

    /** "A state without actions is STILL; all are at first." */
    private static void allStillAtFirst() {
        for (int n = 2; n <= 6; n++) {
            ChanceForests x = new ChanceForests(n);
            x.goal(0, 1);
            Due.due("no way leads anywhere at first", x.hopeless(), all(n) - 1);
            for (int s = 0; s < n; s++) {
                Due.due("actions at first", x.actions(s), 0);
                Due.due("action 1 at first", x.way(s, 1, 1), -2);
                Due.due("the first way of action 0", x.way(s, 0, 1), 1);
                Due.due("the first way of action 1", x.way(s, 1, 1), 1);
                Due.due("still, made still", new ChanceForests(n).still(s), 0);
            }
        }
    }

    /** "There is a set of GOAL states, empty at first." */
    private static void noGoalAtFirst() {
        for (int n = 2; n <= 6; n++) {
            ChanceForests x = new ChanceForests(n);
            Due.due("sure at first", x.sure(), 0);
            Due.due("forced at first", x.forced(), 0);
            Due.due("hopeless at first", x.hopeless(), all(n));
            for (int s = 0; s < n; s++) {
                Due.due("goal at first", x.goal(s, 0), 0);
            }
        }
    }

    /** "A PLAN chooses an action for every state that is not still." */
    private static void planChoosesForEveryState() {
        for (int n = 3; n <= 6; n++) {
            for (int plan = 0; plan < 1 << n; plan++) {
                choicesOfPlan(n, plan);
            }
        }
    }

    /** The last but one is still, the last is a goal; of the others, those with their bit in plan get there. */
    private static void choicesOfPlan(int n, int plan) {
        ChanceForests x = new ChanceForests(n);
        x.goal(n - 1, 1);
        for (int s = 0; s < n - 2; s++) {
            x.way(s, 0, to(n - 2, 1));
            x.way(s, 1, to(n - 1, 1));
        }
        for (int s = 0; s < n - 2; s++) {
            dueChance("n " + n, x, s, plan, plan >> s & 1, 1);
        }
        dueChance("a still state, n " + n, x, n - 2, plan, 0, 1);
        dueChance("a goal, n " + n, x, n - 1, plan, 1, 1);
    }

    /** "it is 1 for goal states" */
    private static void oneForGoals() {
        for (int n = 2; n <= 6; n++) {
            for (int goal = 0; goal < n; goal++) {
                ChanceForests x = new ChanceForests(n);
                x.goal(goal, 1);
                dueChance("a still goal", x, goal, 0, 1, 1);
                x.way(goal, 0, to((goal + 1) % n, 9));
                dueChance("a goal that leads away", x, goal, 0, 1, 1);
                x.way(goal, 1, to(goal, 9));
                dueChance("a goal that stays", x, goal, 1 << goal, 1, 1);
                dueBest("a goal with a choice", x, goal, 1, 1);
                dueWorst("a goal with a choice", x, goal, 1, 1);
            }
        }
        // From 0 the walk comes to goal 1 before it is lost: that is coming to a goal.
        ChanceForests x = new ChanceForests(3);
        x.goal(1, 1);
        x.way(0, 0, to(1, 1));
        x.way(1, 0, to(2, 1));
        dueChance("through a goal to a still state", x, 0, 0, 1, 1);
        x.goal(2, 1);
        x.way(1, 0, to(0, 1));
        dueChance("from goal to goal", x, 0, 0, 1, 1);
        dueChance("from goal to goal", x, 1, 0, 1, 1);
    }

    /** "otherwise 0 for still states" */
    private static void zeroForStillStates() {
        for (int n = 2; n <= 6; n++) {
            for (int s = 0; s < n; s++) {
                ChanceForests x = new ChanceForests(n);
                for (int t = 0; t < n; t++) {
                    x.goal(t, t == s ? 0 : 1);
                }
                dueChance("still among goals", x, s, 0, 0, 1);
                dueChance("still among goals", x, s, all(n), 0, 1);
                dueBest("still among goals", x, s, 0, 1);
                x.way(s, 0, to((s + 1) % n, 1));
                dueChance("not still any more", x, s, 0, 1, 1);
                x.still(s);
                dueChance("still again", x, s, 0, 0, 1);
                x.goal(s, 1);
                dueChance("still and a goal", x, s, 0, 1, 1);
            }
        }
    }

    /** "and for states from which no goal state can be come to by ways of chosen actions" */
    private static void zeroWhereNoGoalIsComeTo() {
        ChanceForests x = new ChanceForests(4);
        x.goal(3, 1);
        x.way(0, 0, to(1, 1));
        x.way(1, 0, to(2, 1));
        x.way(2, 0, to(0, 1));
        x.way(2, 1, to(3, 1));
        for (int s = 0; s < 3; s++) {
            dueChance("a circle of three", x, s, 0, 0, 1);
            dueChance("a circle of three, left by the action that is chosen", x, s, 4, 1, 1);
        }
        x.way(3, 0, to(0, 1));
        dueChance("a way from the goal is none to it", x, 0, 0, 0, 1);
        ChanceForests y = new ChanceForests(4);
        y.goal(3, 1);
        y.way(0, 0, to(0, 4));
        y.way(0, 0, to(1, 4));
        y.way(1, 0, to(1, 3));
        y.way(2, 0, to(0, 1));
        y.way(2, 0, to(3, 1));
        dueChance("staying, then staying elsewhere", y, 0, 0, 0, 1);
        dueChance("half to a goal, half to where none is come to", y, 2, 0, 1, 2);
    }

    /** The same sentence at its longest: a goal may be as many ways off as there are other states. */
    private static void longestPaths() {
        for (int n = 2; n <= 6; n++) {
            ChanceForests up = new ChanceForests(n);
            ChanceForests down = new ChanceForests(n);
            up.goal(n - 1, 1);
            down.goal(0, 1);
            for (int s = 1; s < n; s++) {
                up.way(s - 1, 0, to(s, 1));
                down.way(s, 0, to(s - 1, 1));
            }
            for (int s = 0; s < n; s++) {
                dueChance("up to the last of " + n, up, s, 0, 1, 1);
                dueChance("down from the last of " + n, down, s, 0, 1, 1);
            }
        }
    }

    /** "for all other states it is the sum, over the ways of the chosen action, of the chance of the way times ..." */
    private static void sumForAllOthers() {
        // 1: a third of 3/5 and two thirds of 0; 0: two sixths of 1/5, three of 3/5 and one of 1.
        ChanceForests x = new ChanceForests(5);
        x.goal(4, 1);
        x.way(2, 0, to(4, 3));
        x.way(2, 0, to(3, 2));
        x.way(1, 0, to(2, 1));
        x.way(1, 0, to(3, 2));
        x.way(0, 0, to(1, 2));
        x.way(0, 0, to(2, 3));
        x.way(0, 0, to(4, 1));
        dueChance("sum", x, 2, 0, 3, 5);
        dueChance("sum", x, 1, 0, 1, 5);
        dueChance("sum", x, 0, 0, 8, 15);
        // Two that lead to each other: a = b / 2 + 1 / 4 and b = a / 3 + 1 / 3, so a = 1 / 2 = b.
        ChanceForests y = new ChanceForests(4);
        y.goal(3, 1);
        y.way(0, 0, to(1, 2));
        y.way(0, 0, to(3, 1));
        y.way(0, 0, to(2, 1));
        y.way(1, 0, to(0, 1));
        y.way(1, 0, to(3, 1));
        y.way(1, 0, to(2, 1));
        dueChance("in each other's sum", y, 0, 0, 1, 2);
        dueChance("in each other's sum", y, 1, 0, 1, 2);
        greatestSums();
    }

    /** Four states in a row with 9, 9 and 8 of 26: 26^4 is about as great as a denominator comes. */
    private static void greatestSums() {
        ChanceForests x = new ChanceForests(6);
        x.goal(5, 1);
        for (int s = 0; s < 4; s++) {
            x.way(s, 0, to(s == 3 ? 5 : s + 1, 9));
            x.way(s, 0, to(4, 9));
            x.way(s, 0, to(4, 8));
        }
        dueChance("9 of 26, four times", x, 0, 0, 6561, 456976);
        dueChance("9 of 26, three times", x, 1, 0, 729, 17576);
        dueWorst("9 of 26, four times", x, 0, 6561, 456976);
        dueBest("9 of 26, four times", x, 0, 6561, 456976);
    }

    /** "THE BEST (...) CHANCE of a state is the greatest (...) chance that it has under a plan." */
    private static void greatestUnderAPlan() {
        for (int plan = 0; plan < 16; plan++) {
            ChanceForests x = onlyPlan(plan);
            // A state is as good as its own choice and those of all behind it.
            dueBest("only plan " + plan, x, 0, 256, 625);
            dueBest("only plan " + plan, x, 3, 4, 5);
            dueChance("only plan " + plan, x, 0, plan, 256, 625);
            Due.due("only plan " + plan, x.bestPlan(), plan);
        }
    }

    /** "THE (WORST) CHANCE of a state is the (least) chance that it has under a plan." */
    private static void leastUnderAPlan() {
        for (int plan = 0; plan < 16; plan++) {
            ChanceForests x = onlyPlan(plan);
            dueWorst("only plan " + plan, x, 0, 1, 16);
            dueWorst("only plan " + plan, x, 3, 1, 2);
            dueChance("only plan " + plan, x, 0, 15 - plan, 1, 16);
        }
    }

    /** A row of four choices up to goal 5: 4/5 by the actions of the plan, and 1/2 by the others. */
    private static ChanceForests onlyPlan(int plan) {
        ChanceForests x = new ChanceForests(6);
        x.goal(5, 1);
        for (int s = 0; s < 4; s++) {
            int next = s == 3 ? 5 : s + 1;
            for (int action = 0; action < 2; action++) {
                boolean isGood = (plan >> s & 1) == action;
                x.way(s, action, to(next, isGood ? 4 : 5));
                x.way(s, action, to(4, isGood ? 1 : 5));
            }
        }
        return x;
    }

    /** "(There are plans that are best, and plans that are worst, for all states at once.)" */
    private static void plansForAllAtOnce() {
        for (int seed = 0; seed < 60; seed++) {
            ChanceForests x = mixed(seed);
            Due.holds("a plan is best for all, " + seed, hasPlan(x, s -> x.bestTop(s), s -> x.bestBottom(s)));
            Due.holds("a plan is worst for all, " + seed, hasPlan(x, s -> x.worstTop(s), s -> x.worstBottom(s)));
        }
    }

    private static boolean hasPlan(ChanceForests x, ToLongFunction<Integer> top, ToLongFunction<Integer> bottom) {
        boolean found = false;
        for (int plan = 0; plan < 8; plan++) {
            boolean all = true;
            for (int s = 0; s < 3; s++) {
                all &= x.chanceTop(s, plan) == top.applyAsLong(s) && x.chanceBottom(s, plan) == bottom.applyAsLong(s);
            }
            found |= all;
        }
        return found;
    }

    /** Three states with two actions of two or three ways each, with a goal or two. */
    private static ChanceForests mixed(int seed) {
        ChanceForests x = new ChanceForests(3);
        java.util.Random random = new java.util.Random(seed);
        for (int i = 0; i < 15; i++) {
            x.way(i % 3, i / 3 % 2, to(random.nextInt(3), 1 + random.nextInt(9)));
        }
        x.goal(random.nextInt(3), 1);
        return x;
    }

    /** "Fractions are asked for by numerator and denominator in lowest terms" */
    private static void lowestTerms() {
        ChanceForests x = oneStep(3, 6, 9);
        x.way(0, 1, to(2, 8));
        x.way(0, 1, to(1, 8));
        dueChance("6 of 15", x, 0, 0, 2, 5);
        dueChance("8 of 16", x, 0, 1, 1, 2);
        dueBest("8 of 16", x, 0, 1, 2);
        dueWorst("6 of 15", x, 0, 2, 5);
        ChanceForests y = new ChanceForests(2);
        y.goal(1, 1);
        y.way(0, 0, to(1, 9));
        y.way(0, 0, to(1, 6));
        y.way(0, 0, to(0, 3));
        dueChance("15 of 15", y, 0, 0, 1, 1);
        dueBest("15 of 15", y, 0, 1, 1);
        dueWorst("15 of 15", y, 0, 1, 1);
        dueBest("a goal", y, 1, 1, 1);
    }

    /** "(0 is 0 / 1)", also beside chances with other denominators */
    private static void zeroIsZeroOfOne() {
        ChanceForests x = new ChanceForests(5);
        x.goal(4, 1);
        x.way(0, 0, to(1, 7));
        x.way(0, 0, to(2, 9));
        x.way(1, 0, to(1, 8));
        x.way(1, 1, to(4, 8));
        x.way(3, 0, to(4, 3));
        x.way(3, 0, to(2, 4));
        for (int s = 0; s < 3; s++) {
            dueChance("0 of many", x, s, 0, 0, 1);
            dueWorst("0 of many", x, s, 0, 1);
        }
        dueBest("0 of a still state", x, 2, 0, 1);
        dueBest("not 0", x, 0, 7, 16);
        dueBest("not 0", x, 3, 3, 7);
    }

    /**
     * From it every kind of refusal can be got: both actions of 0 are full, 1 has room, the last is still.
     * The goal is 2, or 1 of three states, so that the walk can be lost in the last.
     */
    private static ChanceForests eventful(int n) {
        ChanceForests x = new ChanceForests(n);
        x.way(0, 0, to(1, 3));
        x.way(0, 0, to(2, 1));
        x.way(0, 0, to(0, 5));
        x.way(0, 1, to(2, 2));
        x.way(0, 1, to(n - 1, 7));
        x.way(0, 1, to(1, 4));
        x.way(1, 0, to(2, 1));
        x.way(1, 0, to(n == 3 ? 0 : n - 1, 1));
        for (int s = 3; s < n - 1; s++) {
            x.way(s, 0, to(s - 1, 2));
            x.way(s, 0, to(n - 1, 1));
            x.way(s, 1, to(1, 5));
            x.way(s, 1, to(s + 1, 1));
        }
        x.goal(n == 3 ? 1 : 2, 1);
        return x;
    }

    /** All plans of up to four states; to save time, of more those that have or lack one bit at most. */
    private static int[] plans(int n) {
        return IntStream.range(0, 1 << n).filter(plan -> n <= 4 || Integer.bitCount(plan) % (n - 1) <= 1).toArray();
    }

    /** All that can be asked of the graph. */
    private static List<ToLongFunction<ChanceForests>> questions(int n) {
        List<ToLongFunction<ChanceForests>> all = new ArrayList<>(List.of(
            x -> x.states(), x -> x.bestPlan(), x -> x.sure(), x -> x.hopeless(), x -> x.forced()));
        for (int state = 0; state < n; state++) {
            int s = state;
            all.addAll(List.of(x -> x.actions(s), x -> x.bestTop(s), x -> x.bestBottom(s), x -> x.worstTop(s),
                x -> x.worstBottom(s)));
            for (int other = 0; other < n; other++) {
                int t = other;
                all.add(x -> x.compare(s, t));
            }
            for (int plan : plans(n)) {
                all.addAll(List.of(x -> x.chanceTop(s, plan), x -> x.chanceBottom(s, plan)));
            }
        }
        return all;
    }

    /** The questions, and what else brings to light which states are goals and how many ways there are. */
    private static List<Probe> probes(int n) {
        List<ToLongFunction<ChanceForests>> all = questions(n);
        for (int state = 0; state < n; state++) {
            int s = state;
            all.addAll(List.of(x -> x.goal(s, 0), x -> x.still(s), x -> x.way(s, 0, to(n - 1, 1)),
                x -> x.way(s, 1, to(n - 1, 1)), x -> x.way(s, 0, to(n - 1, 1)) * 10 + x.way(s, 1, to(n - 1, 1)),
                x -> x.way(s, 0, to(2, 1)) * 100_000 + x.bestBottom(s), x -> chancesTo(s, n, x)));
        }
        return all.stream().map(call -> new Probe(call, call.applyAsLong(eventful(n)))).toList();
    }

    /** All chances under the first and the last plan, in one number, with s as the only goal. */
    private static long chancesTo(int s, int n, ChanceForests x) {
        for (int t = 0; t < n; t++) {
            x.goal(t, t == s ? 1 : 0);
        }
        long all = 0;
        for (int i = 1; i <= n; i++) {
            int t = (s + i) % n;
            for (int plan = 0; plan < 1 << n; plan += all(n)) {
                all = 31 * (31 * all + x.chanceBottom(t, plan)) + x.chanceTop(t, plan);
            }
        }
        return all;
    }

    /** Each probe is made on an object of its own, with the call before it; its due is the answer without. */
    private static void dueUnchanged(String name, int n, Consumer<ChanceForests> call) {
        List<Probe> probes = PROBES.computeIfAbsent(n, TermsTest::probes);
        for (int i = 0; i < probes.size(); i++) {
            ChanceForests x = eventful(n);
            call.accept(x);
            long got = probes.get(i).call().applyAsLong(x);
            Due.due("n " + n + ", probe " + i + " after " + name, got, probes.get(i).want());
        }
    }

    /** "No question changes anything." */
    private static void questionsChangeNothing() {
        for (int n = 3; n <= 6; n++) {
            List<ToLongFunction<ChanceForests>> questions = questions(n);
            for (int i = 0; i < questions.size(); i++) {
                int asked = i;
                dueUnchanged("question " + i, n, x -> questions.get(asked).applyAsLong(x));
            }
            dueUnchanged("every question", n, x -> questions.forEach(question -> question.applyAsLong(x)));
        }
    }

    private static void dueRefused(String name, int n, int want, ToLongFunction<ChanceForests> call) {
        dueUnchanged(name, n, x -> Due.due(name, call.applyAsLong(x), want));
    }

    /** "A refused call changes nothing." */
    private static void refusedCallsChangeNothing() {
        for (int n = 3; n <= 6; n++) {
            badStatesChangeNothing(n);
            badPlansChangeNothing(n);
            badActionsAndWaysChangeNothing(n);
        }
    }

    private static void badStatesChangeNothing(int n) {
        for (int bad : outside(n)) {
            dueRefused("way of state " + bad, n, -1, x -> x.way(bad, 0, to(2, 1)));
            dueRefused("still(" + bad + ")", n, -1, x -> x.still(bad));
            dueRefused("goal(" + bad + ", 1)", n, -1, x -> x.goal(bad, 1));
            dueRefused("goal(" + bad + ", 0)", n, -1, x -> x.goal(bad, 0));
            dueRefused("actions(" + bad + ")", n, -1, x -> x.actions(bad));
            dueRefused("chanceTop(" + bad + ", 0)", n, -1, x -> x.chanceTop(bad, 0));
            dueRefused("chanceBottom(" + bad + ", 0)", n, -1, x -> x.chanceBottom(bad, 0));
            dueRefused("bestTop(" + bad + ")", n, -1, x -> x.bestTop(bad));
            dueRefused("bestBottom(" + bad + ")", n, -1, x -> x.bestBottom(bad));
            dueRefused("worstTop(" + bad + ")", n, -1, x -> x.worstTop(bad));
            dueRefused("worstBottom(" + bad + ")", n, -1, x -> x.worstBottom(bad));
            dueRefused("compare(" + bad + ", 0)", n, -1, x -> x.compare(bad, 0));
            dueRefused("compare(0, " + bad + ")", n, -1, x -> x.compare(0, bad));
        }
    }

    private static void badPlansChangeNothing(int n) {
        for (int bad : outside(1 << n)) {
            for (int state = 0; state < n; state++) {
                int s = state;
                dueRefused("chanceTop(" + s + ", " + bad + ")", n, -2, x -> x.chanceTop(s, bad));
                dueRefused("chanceBottom(" + s + ", " + bad + ")", n, -2, x -> x.chanceBottom(s, bad));
            }
        }
    }

    private static void badActionsAndWaysChangeNothing(int n) {
        for (int bad : outside(2)) {
            dueRefused("way of action " + bad, n, -2, x -> x.way(1, bad, to(2, 1)));
        }
        dueRefused("way of action 1 before 0", n, -2, x -> x.way(n - 1, 1, to(2, 1)));
        for (int bad : new int[] {LEAST, -15, -1, 0, 10, 15, 16, 26, to(n, 0), to(n, 1), to(n, 9), 257, MOST}) {
            dueRefused("way " + bad + " of an old action", n, -3, x -> x.way(1, 0, bad));
            dueRefused("way " + bad + " of a new action 0", n, -3, x -> x.way(n - 1, 0, bad));
            dueRefused("way " + bad + " of a new action 1", n, -3, x -> x.way(1, 1, bad));
        }
        dueRefused("a fourth way of action 0", n, -4, x -> x.way(0, 0, to(2, 9)));
        dueRefused("a fourth way of action 1", n, -4, x -> x.way(0, 1, to(2, 9)));
    }

    /** "In every method the tests are made in the order named" */
    private static void testsInOrder() {
        ChanceForests x = eventful(4);
        for (int bad : outside(4)) {
            Due.due("state before action", x.way(bad, 2, to(2, 1)), -1);
            Due.due("state before action 1 without 0", x.way(bad, 1, to(2, 1)), -1);
            Due.due("state before next", x.way(bad, 0, to(4, 1)), -1);
            Due.due("state before share", x.way(bad, 0, to(2, 0)), -1);
            Due.due("state before all", x.way(bad, -1, -1), -1);
            Due.due("state before plan", x.chanceTop(bad, 16), -1);
            Due.due("state before plan", x.chanceTop(bad, -1), -1);
            Due.due("state before plan", x.chanceBottom(bad, 16), -1);
            Due.due("state before plan", x.chanceBottom(bad, -1), -1);
        }
        for (int bad : new int[] {LEAST, -1, 0, 10, 16, to(4, 1), MOST}) {
            Due.due("action before way", x.way(0, 2, bad), -2);
            Due.due("action before way", x.way(0, -1, bad), -2);
            Due.due("action 1 without 0 before way", x.way(3, 1, bad), -2);
            Due.due("way before three ways", x.way(0, 0, bad), -3);
        }
        Due.due("three ways at last", x.way(0, 0, 1), -4);
    }

    /** "a state is good if it is 0 .. n-1." */
    private static void goodStates() {
        for (int n = 2; n <= 6; n++) {
            ChanceForests x = new ChanceForests(n);
            for (int s = 0; s < n; s++) {
                Due.due(s + " is good", x.actions(s), 0);
                Due.due(s + " is good", x.chanceTop(s, 0), 0);
                Due.due(s + " is good", x.chanceBottom(s, 0), 1);
                Due.due(s + " is good", x.bestTop(s), 0);
                Due.due(s + " is good", x.bestBottom(s), 1);
                Due.due(s + " is good", x.worstTop(s), 0);
                Due.due(s + " is good", x.worstBottom(s), 1);
                Due.due(s + " is good", x.compare(s, n - 1 - s), 0);
                Due.due(s + " is good", x.goal(s, 0), 0);
                Due.due(s + " is good", x.still(s), 0);
                Due.due(s + " is good", x.way(s, 0, to(s, 1)), 1);
            }
            Due.due(n + " is not good", x.actions(n), -1);
            Due.due("-1 is not good", x.actions(-1), -1);
        }
    }
}
