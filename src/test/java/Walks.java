/** What the tests that are written by hand share: ways by their parts, wrong numbers, and fractions that are due. */
abstract class Walks {
    static final int LEAST = Integer.MIN_VALUE;
    static final int MOST = Integer.MAX_VALUE;

    static int to(int next, int share) {
        return 16 * next + share;
    }

    /** Numbers just outside 0 .. limit - 1, far outside, and such as a narrower type would take for good ones. */
    static int[] outside(int limit) {
        return new int[] {LEAST, LEAST + 1, -65536, -256, -255, -limit, -1, limit, limit + 1, limit + 64, 256, 257,
            65536, 65537, 1 << 30, MOST};
    }

    static int all(int n) {
        return (1 << n) - 1;
    }

    static void dueChance(String name, ChanceForests x, int state, int plan, long top, long bottom) {
        String call = name + ": chance(" + state + ", " + plan + ")";
        Due.due(call + " top", x.chanceTop(state, plan), top);
        Due.due(call + " bottom", x.chanceBottom(state, plan), bottom);
    }

    static void dueBest(String name, ChanceForests x, int state, long top, long bottom) {
        Due.due(name + ": bestTop(" + state + ")", x.bestTop(state), top);
        Due.due(name + ": bestBottom(" + state + ")", x.bestBottom(state), bottom);
    }

    static void dueWorst(String name, ChanceForests x, int state, long top, long bottom) {
        Due.due(name + ": worstTop(" + state + ")", x.worstTop(state), top);
        Due.due(name + ": worstBottom(" + state + ")", x.worstBottom(state), bottom);
    }

    /** The last state is the goal, the one before it is still, and the first goes to them by these shares. */
    static ChanceForests oneStep(int n, int goalShare, int stillShare) {
        ChanceForests x = new ChanceForests(n);
        x.goal(n - 1, 1);
        x.way(0, 0, to(n - 1, goalShare));
        x.way(0, 0, to(n - 2, stillShare));
        return x;
    }

    /** Two states with a choice each, in which action 1 is the better one, a goal (2) and a still state (3). */
    static ChanceForests twoChoices() {
        ChanceForests x = new ChanceForests(4);
        x.way(0, 0, to(1, 1));
        x.way(0, 0, to(3, 3));
        x.way(0, 1, to(1, 1));
        x.way(0, 1, to(3, 1));
        x.way(1, 0, to(2, 1));
        x.way(1, 0, to(3, 2));
        x.way(1, 1, to(2, 2));
        x.way(1, 1, to(3, 1));
        x.goal(2, 1);
        return x;
    }
}
