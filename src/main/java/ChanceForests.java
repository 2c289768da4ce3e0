/** Random walks on a small graph: exact chances of getting somewhere, with and without choices. */
public final class ChanceForests {
    private static final int LEAST_STATES = 2;
    private static final int MOST_STATES = 6;
    private static final int MOST_ACTIONS = 2;
    private static final int MOST_WAYS = 3;
    private static final int MOST_SHARE = 9;

    private static final int ACTION_CELLS = MOST_STATES * MOST_ACTIONS;
    private static final int WAY_CELLS = ACTION_CELLS * MOST_WAYS;

    // A row holds the factors of the unknown chances and, behind them, the right side.
    private static final int ROW = MOST_STATES + 1;
    private static final int ROW_CELLS = MOST_STATES * ROW;

    private static final int BEST = 1;
    private static final int WORST = -1;

    // Euclid's algorithm needs fewer than a hundred steps for any two longs.
    private static final int MOST_DIVISOR_STEPS = 1000;

    private final int stateCount;
    private final int planCount;

    // An action's cell is 2 * state + action, and its ways' cells begin at 3 * that cell.
    private final int[] actionCount = new int[MOST_STATES];
    private final int[] wayCount = new int[ACTION_CELLS];
    private final int[] wayNext = new int[WAY_CELLS];
    private final int[] wayShare = new int[WAY_CELLS];
    private final boolean[] isGoal = new boolean[MOST_STATES];

    // The rest is room for reckoning: every question fills it anew before it reads it.
    private final boolean[] canReachGoal = new boolean[MOST_STATES];
    private final long[] equations = new long[ROW_CELLS];
    private final long[] planTop = new long[MOST_STATES];
    private final long[] planBottom = new long[MOST_STATES];
    private final long[] extremeTop = new long[MOST_STATES];
    private final long[] extremeBottom = new long[MOST_STATES];

    public ChanceForests(int states) {
        if (states < LEAST_STATES) {
            stateCount = LEAST_STATES;
        } else if (states > MOST_STATES) {
            stateCount = MOST_STATES;
        } else {
            stateCount = states;
        }
        planCount = 1 << stateCount;
    }

    public int states() {
        return stateCount;
    }

    public int way(int state, int action, int way) {
        if (!isGood(state)) {
            return -1;
        }
        // Actions come to be in order, so the next new one has the count as its number.
        if (action < 0 || action >= MOST_ACTIONS || action > actionCount[state]) {
            return -2;
        }
        // The shift keeps the sign: a negative way has a negative next state.
        int next = way >> 4;
        int share = way & 15;
        if (!isGood(next) || share < 1 || share > MOST_SHARE) {
            return -3;
        }
        int cell = MOST_ACTIONS * state + action;
        int count = wayCount[cell];
        if (count >= MOST_WAYS) {
            return -4;
        }
        wayNext[MOST_WAYS * cell + count] = next;
        wayShare[MOST_WAYS * cell + count] = share;
        wayCount[cell] = count + 1;
        if (action == actionCount[state]) {
            actionCount[state] = action + 1;
        }
        return count + 1;
    }

    public int still(int state) {
        if (!isGood(state)) {
            return -1;
        }
        int had = actionCount[state];
        actionCount[state] = 0;
        for (int action = 0; action < MOST_ACTIONS; action++) {
            wayCount[MOST_ACTIONS * state + action] = 0;
        }
        return had;
    }

    public int goal(int state, int flag) {
        if (!isGood(state)) {
            return -1;
        }
        int before = isGoal[state] ? 1 : 0;
        isGoal[state] = flag != 0;
        return before;
    }

    public int actions(int state) {
        if (!isGood(state)) {
            return -1;
        }
        return actionCount[state];
    }

    public long chanceTop(int state, int plan) {
        if (!isGood(state)) {
            return -1;
        }
        if (!isPlan(plan)) {
            return -2;
        }
        findChances(plan);
        return planTop[state];
    }

    public long chanceBottom(int state, int plan) {
        if (!isGood(state)) {
            return -1;
        }
        if (!isPlan(plan)) {
            return -2;
        }
        findChances(plan);
        return planBottom[state];
    }

    public long bestTop(int state) {
        if (!isGood(state)) {
            return -1;
        }
        findExtremes(BEST);
        return extremeTop[state];
    }

    public long bestBottom(int state) {
        if (!isGood(state)) {
            return -1;
        }
        findExtremes(BEST);
        return extremeBottom[state];
    }

    public long worstTop(int state) {
        if (!isGood(state)) {
            return -1;
        }
        findExtremes(WORST);
        return extremeTop[state];
    }

    public long worstBottom(int state) {
        if (!isGood(state)) {
            return -1;
        }
        findExtremes(WORST);
        return extremeBottom[state];
    }

    public int bestPlan() {
        findExtremes(BEST);
        // A bit of a state without action 1 changes no chance, so the least plan never has one.
        for (int plan = 0; plan < planCount; plan++) {
            findChances(plan);
            if (planIsExtreme()) {
                return plan;
            }
        }
        return 0;
    }

    public int sure() {
        findExtremes(BEST);
        int set = 0;
        for (int state = 0; state < stateCount; state++) {
            if (extremeTop[state] == extremeBottom[state]) {
                set |= 1 << state;
            }
        }
        return set;
    }

    public int hopeless() {
        findExtremes(BEST);
        int set = 0;
        for (int state = 0; state < stateCount; state++) {
            if (extremeTop[state] == 0) {
                set |= 1 << state;
            }
        }
        return set;
    }

    public int forced() {
        findExtremes(WORST);
        int set = 0;
        for (int state = 0; state < stateCount; state++) {
            if (extremeTop[state] > 0) {
                set |= 1 << state;
            }
        }
        return set;
    }

    public int compare(int s, int t) {
        if (!isGood(s) || !isGood(t)) {
            return -1;
        }
        findExtremes(BEST);
        int order = orderOf(extremeTop[s], extremeBottom[s], extremeTop[t], extremeBottom[t]);
        return order < 0 ? 2 : order;
    }

    private boolean isGood(int state) {
        return state >= 0 && state < stateCount;
    }

    private boolean isPlan(int plan) {
        return plan >= 0 && plan < planCount;
    }

    /** The order of two fractions with positive denominators: 1, 0 or -1. */
    private static int orderOf(long topA, long bottomA, long topB, long bottomB) {
        // Neither part of a chance is above 27^5 (see solveEquations), so the products fit into a long.
        long left = topA * bottomB;
        long right = topB * bottomA;
        if (left > right) {
            return 1;
        }
        return left < right ? -1 : 0;
    }

    /** Puts every state's best or worst chance over all plans into the extremes. */
    private void findExtremes(int direction) {
        findChances(0);
        for (int state = 0; state < stateCount; state++) {
            extremeTop[state] = planTop[state];
            extremeBottom[state] = planBottom[state];
        }
        for (int plan = 1; plan < planCount; plan++) {
            findChances(plan);
            keepExtremes(direction);
        }
    }

    private void keepExtremes(int direction) {
        for (int state = 0; state < stateCount; state++) {
            int order = orderOf(planTop[state], planBottom[state], extremeTop[state], extremeBottom[state]);
            if (order == direction) {
                extremeTop[state] = planTop[state];
                extremeBottom[state] = planBottom[state];
            }
        }
    }

    private boolean planIsExtreme() {
        for (int state = 0; state < stateCount; state++) {
            // Both are in lowest terms, so equal fractions have equal parts.
            if (planTop[state] != extremeTop[state] || planBottom[state] != extremeBottom[state]) {
                return false;
            }
        }
        return true;
    }

    /** Puts every state's chance under a plan, in lowest terms, into planTop and planBottom. */
    private void findChances(int plan) {
        markReachingStates(plan);
        for (int state = 0; state < stateCount; state++) {
            writeEquation(state, plan);
        }
        solveEquations();
        for (int state = 0; state < stateCount; state++) {
            readChance(state);
        }
    }

    private int chosenCell(int state, int plan) {
        int action = actionCount[state] == MOST_ACTIONS ? (plan >> state) & 1 : 0;
        return MOST_ACTIONS * state + action;
    }

    private void markReachingStates(int plan) {
        for (int state = 0; state < stateCount; state++) {
            canReachGoal[state] = isGoal[state];
        }
        // A shortest path to a goal has fewer ways than there are states, and a round adds a way.
        for (int round = 1; round < stateCount; round++) {
            for (int state = 0; state < stateCount; state++) {
                int cell = chosenCell(state, plan);
                for (int i = 0; i < wayCount[cell]; i++) {
                    if (canReachGoal[wayNext[MOST_WAYS * cell + i]]) {
                        canReachGoal[state] = true;
                    }
                }
            }
        }
    }

    private void writeEquation(int state, int plan) {
        int row = ROW * state;
        for (int column = 0; column <= stateCount; column++) {
            equations[row + column] = 0;
        }
        if (isGoal[state] || !canReachGoal[state]) {
            equations[row + state] = 1;
            equations[row + stateCount] = isGoal[state] ? 1 : 0;
            return;
        }
        int cell = chosenCell(state, plan);
        for (int i = 0; i < wayCount[cell]; i++) {
            int share = wayShare[MOST_WAYS * cell + i];
            equations[row + state] += share;
            equations[row + wayNext[MOST_WAYS * cell + i]] -= share;
        }
    }

    /**
     * Makes the left side the same number on the diagonal and 0 elsewhere, in whole numbers alone.
     *
     * Every number on the way is a minor of the equations as written, so each division leaves no rest.
     * The sizes in a row add up to at most 2 * 27, or to at most 2 where the chance is known (at least
     * a goal's is, or all are): minors stay below 2 * 54^5, and sums of two products of them fit into a
     * long. The pivots are the leading minors. They are positive, as every state with an unknown chance
     * can reach a goal; so rows need not be exchanged. The last one is the weight of all choices of one
     * way for each such state that hold no circle, so it is at most 27^5.
     */
    private void solveEquations() {
        long divisor = 1;
        for (int column = 0; column < stateCount; column++) {
            long pivot = equations[ROW * column + column];
            if (pivot == 0) {
                return;
            }
            for (int state = 0; state < stateCount; state++) {
                if (state != column) {
                    clearColumn(state, column, pivot, divisor);
                }
            }
            divisor = pivot;
        }
    }

    private void clearColumn(int state, int column, long pivot, long divisor) {
        if (divisor == 0) {
            return;
        }
        int row = ROW * state;
        int pivotRow = ROW * column;
        long factor = equations[row + column];
        for (int i = 0; i <= stateCount; i++) {
            equations[row + i] = (pivot * equations[row + i] - factor * equations[pivotRow + i]) / divisor;
        }
    }

    private void readChance(int state) {
        long top = equations[ROW * state + stateCount];
        long bottom = equations[ROW * state + state];
        long divisor = commonDivisor(top, bottom);
        if (divisor > 1) {
            top /= divisor;
            bottom /= divisor;
        }
        planTop[state] = top;
        planBottom[state] = bottom;
    }

    /** The greatest common divisor of two numbers that are not negative. */
    private static long commonDivisor(long a, long b) {
        long greater = a;
        long lesser = b;
        for (int step = 0; step < MOST_DIVISOR_STEPS && lesser != 0; step++) {
            long rest = greater % lesser;
            greater = lesser;
            lesser = rest;
        }
        return greater;
    }
}
