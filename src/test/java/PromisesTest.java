/** Each promise of the document by hand: ordinary inputs, the edges it names, and wrong inputs. */
public final class PromisesTest extends Walks {
    public static void main(String[] args) {
        newObject();
        newObjectIsStillWithoutGoals();
        wayCounts();
        wayRefusals();
        wayTestOrder();
        still();
        goal();
        actions();
        chance();
        chanceOfKnownStates();
        chanceRefusals();
        chanceOfLargestNumbers();
        best();
        worst();
        bestPlan();
        bestPlanEdges();
        sets();
        compare();
        Due.end();
    }

    /** Promises 1 and 2. */
    private static void newObject() {
        int[] given = {LEAST, -1, 0, 1, 2, 3, 4, 5, 6, 7, 64, MOST};
        int[] want = {2, 2, 2, 2, 2, 3, 4, 5, 6, 6, 6, 6};
        for (int i = 0; i < given.length; i++) {
            ChanceForests x = new ChanceForests(given[i]);
            Due.due("new(" + given[i] + ").states()", x.states(), want[i]);
            Due.due("new(" + given[i] + "): last good state", x.actions(want[i] - 1), 0);
            Due.due("new(" + given[i] + "): first state beyond", x.actions(want[i]), -1);
        }
    }

    private static void newObjectIsStillWithoutGoals() {
        for (int n = 2; n <= 6; n++) {
            ChanceForests x = new ChanceForests(n);
            for (int s = 0; s < n; s++) {
                Due.due("new: actions", x.actions(s), 0);
                dueChance("new", x, s, 0, 0, 1);
                dueChance("new", x, s, (1 << n) - 1, 0, 1);
                dueBest("new", x, s, 0, 1);
                dueWorst("new", x, s, 0, 1);
            }
            Due.due("new: bestPlan()", x.bestPlan(), 0);
            Due.due("new: sure()", x.sure(), 0);
            Due.due("new: hopeless()", x.hopeless(), (1 << n) - 1);
            Due.due("new: forced()", x.forced(), 0);
            for (int s = 0; s < n; s++) {
                Due.due("new: still", x.still(s), 0);
                Due.due("new: goal", x.goal(s, 0), 0);
            }
        }
    }

    /** Promise 3. */
    private static void wayCounts() {
        ChanceForests x = new ChanceForests(6);
        Due.due("way: first of action 0", x.way(5, 0, to(5, 9)), 1);
        Due.due("way: first of action 1", x.way(5, 1, to(0, 1)), 1);
        Due.due("way: second of action 0", x.way(5, 0, to(5, 9)), 2);
        Due.due("way: second of action 1", x.way(5, 1, to(0, 1)), 2);
        Due.due("way: third of action 0", x.way(5, 0, to(5, 9)), 3);
        Due.due("way: fourth of action 0", x.way(5, 0, to(5, 9)), -4);
        Due.due("way: third of action 1", x.way(5, 1, to(1, 9)), 3);
        Due.due("way: fourth of action 1", x.way(5, 1, to(1, 9)), -4);
        Due.due("way: action 2 beside two", x.way(5, 2, to(1, 9)), -2);
        Due.due("way: another state's action", x.way(4, 0, to(5, 9)), 1);
        Due.due("way: share 1 to state 0", x.way(0, 0, 1), 1);
    }

    private static void wayRefusals() {
        ChanceForests x = new ChanceForests(3);
        for (int state : new int[] {LEAST, -1, 3, 6, MOST}) {
            Due.due("way: state " + state, x.way(state, 0, 1), -1);
        }
        for (int action : new int[] {LEAST, -1, 1, 2, 3, MOST}) {
            Due.due("way: action " + action, x.way(0, action, 1), -2);
        }
        int[] bad = {LEAST, LEAST + 1, -15, -1, 0, 10, 15, 16, 26, 31, 32, 42, 48, 49, 57, 81, 16 * 6 + 1, MOST};
        for (int way : bad) {
            Due.due("way: way " + way, x.way(0, 0, way), -3);
        }
        Due.due("way: refused ways leave no action", x.actions(0), 0);
        Due.due("way: action 1 after refused ways of 0", x.way(0, 1, 1), -2);
        Due.due("way: good", x.way(0, 0, to(1, 1)), 1);
        Due.due("way: refused way of action 1", x.way(0, 1, to(3, 1)), -3);
        Due.due("way: no action 1 came of it", x.actions(0), 1);
        Due.due("way: action 2 beside action 0", x.way(0, 2, 1), -2);
        x.goal(1, 1);
        x.way(0, 0, to(2, 1));
        x.way(0, 0, to(2, 1));
        Due.due("way: fourth", x.way(0, 0, to(1, 9)), -4);
        dueChance("way: the refused one does not count", x, 0, 0, 1, 3);
    }

    private static void wayTestOrder() {
        ChanceForests x = new ChanceForests(2);
        Due.due("way: all wrong", x.way(2, 2, -1), -1);
        Due.due("way: action and way wrong", x.way(0, 1, -1), -2);
        x.way(0, 0, 1);
        x.way(0, 0, 1);
        x.way(0, 0, 1);
        Due.due("way: way wrong, action full", x.way(0, 0, 16), -3);
        Due.due("way: action wrong beside a full one", x.way(0, 2, 1), -2);
        Due.due("way: action full", x.way(0, 0, 1), -4);
    }

    /** Promise 4. */
    private static void still() {
        ChanceForests x = new ChanceForests(3);
        for (int state : new int[] {LEAST, -1, 3, MOST}) {
            Due.due("still: state " + state, x.still(state), -1);
        }
        Due.due("still: none", x.still(2), 0);
        x.goal(1, 1);
        x.way(0, 0, to(1, 1));
        x.way(0, 1, to(1, 1));
        x.way(0, 1, to(2, 1));
        x.way(2, 0, to(1, 5));
        Due.due("still: two", x.still(0), 2);
        Due.due("still: two, again", x.still(0), 0);
        Due.due("still: the other state keeps its action", x.actions(2), 1);
        dueChance("still", x, 0, 0, 0, 1);
        Due.due("still: action 1 is gone", x.way(0, 1, to(1, 1)), -2);
        Due.due("still: action 0 begins anew", x.way(0, 0, to(0, 2)), 1);
        dueBest("still: old ways are gone", x, 0, 0, 1);
        Due.due("still: action 1 begins anew", x.way(0, 1, to(1, 2)), 1);
        dueBest("still: new ways count", x, 0, 1, 1);
        x.still(0);
        x.way(0, 0, to(1, 1));
        x.way(0, 0, to(0, 1));
        x.way(0, 0, to(1, 9));
        x.still(0);
        x.still(2);
        x.way(0, 0, to(1, 1));
        x.way(0, 0, to(2, 3));
        dueBest("still: fewer ways than before", x, 0, 1, 4);
        x.way(2, 0, to(1, 5));
        Due.due("still: one", x.still(2), 1);
        Due.due("still: goals stay goals", x.still(1), 0);
        dueBest("still: goals stay goals", x, 1, 1, 1);
    }

    /** Promise 5. */
    private static void goal() {
        ChanceForests x = new ChanceForests(2);
        for (int state : new int[] {LEAST, -1, 2, MOST}) {
            Due.due("goal: state " + state, x.goal(state, 1), -1);
        }
        Due.due("goal: refused calls set none", x.sure(), 0);
        Due.due("goal: on", x.goal(0, 1), 0);
        Due.due("goal: on again", x.goal(0, -7), 1);
        Due.due("goal: the other", x.goal(1, LEAST), 0);
        Due.due("goal: both", x.sure(), 3);
        Due.due("goal: off", x.goal(0, 0), 1);
        Due.due("goal: off again", x.goal(0, 0), 0);
        Due.due("goal: one left", x.sure(), 2);
        Due.due("goal: a flag with low bit 0", x.goal(0, 256), 0);
        Due.due("goal: that is one", x.goal(0, 1), 1);
    }

    /** Promise 6. */
    private static void actions() {
        ChanceForests x = new ChanceForests(4);
        for (int state : new int[] {LEAST, -1, 4, 5, MOST}) {
            Due.due("actions: state " + state, x.actions(state), -1);
        }
        Due.due("actions: none", x.actions(3), 0);
        x.way(3, 0, to(0, 1));
        Due.due("actions: one", x.actions(3), 1);
        x.way(3, 0, to(0, 1));
        Due.due("actions: one with two ways", x.actions(3), 1);
        x.way(3, 1, to(0, 1));
        Due.due("actions: two", x.actions(3), 2);
        x.way(3, 0, to(0, 1));
        Due.due("actions: two, more ways of the first", x.actions(3), 2);
        Due.due("actions: others have none", x.actions(2), 0);
        x.still(3);
        Due.due("actions: none again", x.actions(3), 0);
    }

    /** Promises 7 and 8. */
    private static void chance() {
        // The gambler's walk 0 .. 4 with 2 to 1 against: from k the chance is (2^k - 1) / (2^4 - 1).
        ChanceForests x = new ChanceForests(5);
        for (int s = 1; s <= 3; s++) {
            x.way(s, 0, to(s - 1, 2));
            x.way(s, 0, to(s + 1, 1));
        }
        x.goal(4, 1);
        dueChance("gambler", x, 0, 0, 0, 1);
        dueChance("gambler", x, 1, 0, 1, 15);
        dueChance("gambler", x, 2, 0, 1, 5);
        dueChance("gambler", x, 3, 0, 7, 15);
        dueChance("gambler", x, 4, 0, 1, 1);
        dueChance("gambler: bits without action 1", x, 3, 31, 7, 15);
        x.way(2, 1, to(2, 8));
        x.way(2, 1, to(4, 1));
        x.way(2, 1, to(0, 1));
        dueChance("gambler with a choice: not chosen", x, 1, 31 - 4, 1, 15);
        dueChance("gambler with a choice: chosen", x, 1, 4, 1, 6);
        dueChance("gambler with a choice: chosen", x, 2, 4, 1, 2);
        dueChance("gambler with a choice: chosen, other bits", x, 3, 31, 2, 3);
        // The same next state several times, and shares that are not in lowest terms.
        ChanceForests y = new ChanceForests(3);
        y.way(0, 0, to(1, 2));
        y.way(0, 0, to(1, 4));
        y.way(0, 0, to(2, 9));
        y.goal(1, 1);
        dueChance("the same next state twice", y, 0, 0, 2, 5);
    }

    private static void chanceOfKnownStates() {
        ChanceForests x = new ChanceForests(4);
        x.goal(0, 1);
        x.way(0, 0, to(1, 1));
        dueChance("a goal that leads away", x, 0, 0, 1, 1);
        x.way(2, 0, to(2, 9));
        dueChance("only to itself", x, 2, 0, 0, 1);
        x.way(2, 0, to(3, 9));
        x.way(3, 0, to(2, 1));
        dueChance("a circle", x, 2, 0, 0, 1);
        dueChance("a circle", x, 3, 0, 0, 1);
        x.way(3, 0, to(0, 1));
        dueChance("a circle with a way out", x, 2, 0, 1, 1);
        dueChance("a circle with a way out", x, 3, 0, 1, 1);
        x.goal(2, 1);
        dueChance("a goal among others", x, 2, 0, 1, 1);
        x.goal(2, 0);
        x.goal(0, 0);
        dueChance("no goal at all", x, 3, 0, 0, 1);
        x.goal(1, 1);
        dueChance("through a state that was a goal", x, 2, 0, 1, 1);
    }

    private static void chanceRefusals() {
        for (int n = 2; n <= 6; n++) {
            ChanceForests x = new ChanceForests(n);
            x.goal(0, 1);
            for (int state : new int[] {LEAST, -1, n, MOST}) {
                Due.due("chanceTop: state " + state, x.chanceTop(state, 0), -1);
                Due.due("chanceBottom: state " + state, x.chanceBottom(state, 0), -1);
                Due.due("chanceTop: state before plan", x.chanceTop(state, -1), -1);
                Due.due("chanceBottom: state before plan", x.chanceBottom(state, -1), -1);
            }
            for (int plan : new int[] {LEAST, -1, 1 << n, MOST}) {
                Due.due("chanceTop: plan " + plan, x.chanceTop(0, plan), -2);
                Due.due("chanceBottom: plan " + plan, x.chanceBottom(0, plan), -2);
            }
            Due.due("chanceTop: last plan", x.chanceTop(0, (1 << n) - 1), 1);
            Due.due("chanceBottom: last plan", x.chanceBottom(0, (1 << n) - 1), 1);
        }
    }

    private static void chanceOfLargestNumbers() {
        // 1 of 19 a step on, 9 of 19 back to 0, 9 of 19 lost: 1 / (19^4 - 9 (19^3 + 19^2 + 19 + 1)).
        ChanceForests x = new ChanceForests(6);
        for (int s = 0; s < 4; s++) {
            x.way(s, 0, to(0, 9));
            x.way(s, 0, to(s + 1, 1));
            x.way(s, 0, to(5, 9));
        }
        x.goal(4, 1);
        dueChance("long odds", x, 0, 0, 1, 65161);
        // Each of five states goes a step on with 1 of 19 and else back: a sure thing at the last.
        ChanceForests y = new ChanceForests(6);
        for (int s = 0; s < 5; s++) {
            y.way(s, 0, to(0, 9));
            y.way(s, 0, to(s, 9));
            y.way(s, 0, to(s + 1, 1));
        }
        y.goal(5, 1);
        dueChance("long but sure", y, 0, 0, 1, 1);
        Due.due("long but sure: sure()", y.sure(), 63);
    }

    /** Promises 9 and 10. */
    private static void best() {
        ChanceForests x = twoChoices();
        dueBest("two choices", x, 0, 1, 3);
        dueBest("two choices", x, 1, 2, 3);
        dueBest("two choices", x, 2, 1, 1);
        dueBest("two choices", x, 3, 0, 1);
        for (int state : new int[] {LEAST, -1, 4, MOST}) {
            Due.due("bestTop: state " + state, x.bestTop(state), -1);
            Due.due("bestBottom: state " + state, x.bestBottom(state), -1);
        }
        // Staying in a circle for ever is not getting there, though the equations alone allow it.
        ChanceForests y = new ChanceForests(4);
        y.way(0, 0, to(1, 1));
        y.way(1, 0, to(0, 1));
        y.way(1, 1, to(2, 1));
        y.way(1, 1, to(3, 3));
        y.goal(2, 1);
        dueBest("a circle or a small chance", y, 0, 1, 4);
        dueBest("a circle or a small chance", y, 1, 1, 4);
    }

    /** Promises 11 and 12. */
    private static void worst() {
        ChanceForests x = twoChoices();
        dueWorst("two choices", x, 0, 1, 12);
        dueWorst("two choices", x, 1, 1, 3);
        dueWorst("two choices", x, 2, 1, 1);
        dueWorst("two choices", x, 3, 0, 1);
        for (int state : new int[] {LEAST, -1, 4, MOST}) {
            Due.due("worstTop: state " + state, x.worstTop(state), -1);
            Due.due("worstBottom: state " + state, x.worstBottom(state), -1);
        }
        // Going round in a circle avoids the goal for ever.
        ChanceForests y = new ChanceForests(3);
        y.way(0, 0, to(2, 1));
        y.way(0, 1, to(1, 1));
        y.way(1, 0, to(0, 1));
        y.goal(2, 1);
        dueWorst("a circle avoids", y, 0, 0, 1);
        dueWorst("a circle avoids", y, 1, 0, 1);
        y.way(1, 0, to(2, 1));
        dueWorst("a leaking circle does not", y, 0, 1, 1);
    }

    /** Promise 13. */
    private static void bestPlan() {
        ChanceForests x = twoChoices();
        // Plan 1 alone is best for neither, plan 2 for state 1 alone.
        Due.due("bestPlan: both choices", x.bestPlan(), 3);
        x.still(1);
        Due.due("bestPlan: nothing to be had", x.bestPlan(), 0);
        x.way(1, 0, to(2, 1));
        x.way(0, 1, to(1, 9));
        Due.due("bestPlan: one choice", x.bestPlan(), 1);
        // 5 of 10 against 4 of 5: the lesser share is the better chance.
        ChanceForests y = new ChanceForests(6);
        y.goal(0, 1);
        y.way(5, 0, to(0, 5));
        y.way(5, 0, to(4, 5));
        y.way(5, 1, to(0, 4));
        y.way(5, 1, to(4, 1));
        Due.due("bestPlan: the last state", y.bestPlan(), 32);
    }

    private static void bestPlanEdges() {
        ChanceForests x = new ChanceForests(3);
        x.goal(2, 1);
        x.way(0, 0, to(1, 1));
        x.way(0, 1, to(2, 1));
        x.way(1, 0, to(0, 1));
        x.way(1, 1, to(2, 1));
        // Any of the two may leave the circle, so plans 1, 2 and 3 are best.
        Due.due("bestPlan: the least of three", x.bestPlan(), 1);
        x.way(2, 0, to(0, 1));
        x.way(2, 1, to(2, 1));
        Due.due("bestPlan: a goal's action does not matter", x.bestPlan(), 1);
        x.goal(0, 1);
        Due.due("bestPlan: both are goals", x.bestPlan(), 0);
        x.goal(0, 0);
        x.still(0);
        Due.due("bestPlan: no bit of a still state", x.bestPlan(), 2);
        x.goal(2, 0);
        Due.due("bestPlan: no goal", x.bestPlan(), 0);
    }

    /** Promises 14, 15 and 16. */
    private static void sets() {
        ChanceForests x = new ChanceForests(6);
        x.goal(5, 1);
        x.way(0, 0, to(4, 1));
        x.way(0, 1, to(5, 1));
        x.way(1, 0, to(5, 9));
        x.way(1, 0, to(4, 1));
        x.way(2, 0, to(2, 9));
        x.way(2, 0, to(5, 1));
        x.way(3, 0, to(3, 1));
        Due.due("sure", x.sure(), 1 + 4 + 32);
        Due.due("hopeless", x.hopeless(), 8 + 16);
        Due.due("forced", x.forced(), 2 + 4 + 32);
        x.way(2, 1, to(3, 1));
        Due.due("sure with a bad choice", x.sure(), 1 + 4 + 32);
        Due.due("forced with a bad choice", x.forced(), 2 + 32);
        x.goal(4, 1);
        Due.due("sure with two goals", x.sure(), 63 - 8);
        Due.due("hopeless with two goals", x.hopeless(), 8);
        Due.due("forced with two goals", x.forced(), 1 + 2 + 16 + 32);
        x.goal(3, 1);
        Due.due("sure with three goals", x.sure(), 63);
        Due.due("hopeless with three goals", x.hopeless(), 0);
        Due.due("forced with three goals", x.forced(), 63);
    }

    /** Promise 17. */
    private static void compare() {
        ChanceForests x = twoChoices();
        Due.due("compare(1, 0)", x.compare(1, 0), 1);
        Due.due("compare(0, 1)", x.compare(0, 1), 2);
        Due.due("compare(0, 0)", x.compare(0, 0), 0);
        Due.due("compare(2, 1)", x.compare(2, 1), 1);
        Due.due("compare(3, 0)", x.compare(3, 0), 2);
        for (int bad : new int[] {LEAST, -1, 4, MOST}) {
            Due.due("compare(" + bad + ", 0)", x.compare(bad, 0), -1);
            Due.due("compare(0, " + bad + ")", x.compare(0, bad), -1);
            Due.due("compare(" + bad + ", " + bad + ")", x.compare(bad, bad), -1);
        }
        x.goal(3, 1);
        Due.due("compare two goals", x.compare(2, 3), 0);
        x.goal(3, 0);
        x.still(0);
        x.way(0, 0, to(2, 1));
        x.way(0, 0, to(3, 1));
        // Now 1/2 for sure against 1/3 to 2/3: only best chances count.
        Due.due("compare best, not worst", x.compare(0, 1), 2);
        Due.due("compare best, not worst", x.compare(1, 0), 1);
        // 4/5 against 5/6: neither numerators nor denominators alone tell.
        ChanceForests y = new ChanceForests(4);
        y.goal(3, 1);
        y.way(0, 0, to(3, 4));
        y.way(0, 0, to(2, 1));
        y.way(1, 0, to(3, 5));
        y.way(1, 0, to(2, 1));
        Due.due("compare 4/5 with 5/6", y.compare(0, 1), 2);
        Due.due("compare 5/6 with 4/5", y.compare(1, 0), 1);
        y.way(0, 0, to(3, 1));
        Due.due("compare 5/6 with 5/6", y.compare(0, 1), 0);
    }
}
