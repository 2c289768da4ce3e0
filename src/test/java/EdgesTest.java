import java.util.function.ToLongBiFunction;

/** The promises 1 to 17: each sentence, or part of one, that names a boundary case has a method of its own. */
public final class EdgesTest extends Walks {
    public static void main(String[] args) {
        newObject();
        states();
        way();
        still();
        goal();
        actions();
        chance();
        best();
        worst();
        bestPlan();
        sets();
        compare();
        Due.end();
    }

    // Promise 1

    private static void newObject() {
        statesBelowTwo();
        statesAboveSix();
        statesBetween();
    }

    /** "states is n: below 2 becomes 2" */
    private static void statesBelowTwo() {
        for (int given : new int[] {LEAST, LEAST + 3, -65533, -253, -7, -2, -1, 0, 1}) {
            dueSize(given, 2);
        }
    }

    /** "above 6 becomes 6" */
    private static void statesAboveSix() {
        for (int given : new int[] {7, 8, 9, 16, 31, 32, 64, 128, 255, 256, 259, 65536, 65539, MOST}) {
            dueSize(given, 6);
        }
    }

    /** "states is n" */
    private static void statesBetween() {
        for (int given = 2; given <= 6; given++) {
            dueSize(given, given);
        }
    }

    private static void dueSize(int given, int n) {
        String name = "new(" + given + ")";
        ChanceForests x = new ChanceForests(given);
        Due.due(name + ": states", x.states(), n);
        Due.due(name + ": all are hopeless", x.hopeless(), all(n));
        Due.due(name + ": last state", x.way(n - 1, 0, 1), 1);
        Due.due(name + ": state beyond", x.way(n, 0, 1), -1);
        Due.due(name + ": last next state", x.way(0, 0, to(n - 1, 1)), 1);
        Due.due(name + ": next state beyond", x.way(0, 0, to(n, 1)), -3);
        Due.due(name + ": last plan", x.chanceTop(0, all(n)), 0);
        Due.due(name + ": plan beyond", x.chanceTop(0, 1 << n), -2);
    }

    // Promise 2

    /** "n", whatever has been called */
    private static void states() {
        for (int n = 2; n <= 6; n++) {
            ChanceForests x = new ChanceForests(n);
            for (int s = 0; s < n; s++) {
                x.way(s, 0, to(n - 1, 9));
                x.goal(s, 1);
                Due.due("states after way and goal", x.states(), n);
            }
            x.way(n, 0, 1);
            x.goal(n, 1);
            x.still(n);
            x.still(0);
            x.bestPlan();
            Due.due("states after refused calls and questions", x.states(), n);
        }
    }

    // Promise 3

    private static void way() {
        wayMakesTheAction();
        wayIsNextAndShare();
        wayOfBadState();
        wayOfBadAction();
        wayOfActionOneAlone();
        wayToBadNext();
        wayOfBadShare();
        wayNegative();
        wayOfFullAction();
        wayAnswersTheCount();
    }

    /** "Puts a way into an action of a state; the action comes to be if it was not there." */
    private static void wayMakesTheAction() {
        for (int n = 2; n <= 6; n++) {
            ChanceForests x = new ChanceForests(n);
            for (int s = 0; s < n; s++) {
                x.way(s, 0, 1);
                Due.due("action 0 comes to be", x.actions(s), 1);
                x.way(s, 0, 1);
                Due.due("action 0 was there", x.actions(s), 1);
                x.way(s, 1, 1);
                Due.due("action 1 comes to be", x.actions(s), 2);
                x.way(s, 1, 1);
                Due.due("action 1 was there", x.actions(s), 2);
                x.way(s, 0, 1);
                Due.due("action 0 is still there", x.actions(s), 2);
                if (s + 1 < n) {
                    Due.due("the next state has none of it", x.actions(s + 1), 0);
                }
            }
        }
    }

    /** "way is 16 * next + share." */
    private static void wayIsNextAndShare() {
        for (int n = 2; n <= 6; n++) {
            for (int next = 0; next < n; next++) {
                for (int share = 1; share <= 9; share++) {
                    int from = (next + 1) % n;
                    ChanceForests x = new ChanceForests(n);
                    x.goal(next, 1);
                    Due.due("to " + next, x.way(from, 0, 16 * next + share), 1);
                    dueChance("to " + next, x, from, 0, 1, 1);
                }
            }
        }
    }

    /** "-1 if state is not good" */
    private static void wayOfBadState() {
        dueRefused("way", (x, bad) -> x.way(bad, 0, 1));
    }

    /** "-2 if action is not 0 or 1" */
    private static void wayOfBadAction() {
        for (int actions = 0; actions <= 2; actions++) {
            ChanceForests x = new ChanceForests(2);
            for (int action = 0; action < actions; action++) {
                x.way(1, action, 1);
            }
            for (int bad : outside(2)) {
                Due.due("action " + bad + " beside " + actions, x.way(1, bad, 1), -2);
            }
            Due.due("no action came of it", x.actions(1), actions);
        }
    }

    /** "or is 1 while there is no action 0" */
    private static void wayOfActionOneAlone() {
        for (int n = 2; n <= 6; n++) {
            ChanceForests x = new ChanceForests(n);
            for (int s = 0; s < n; s++) {
                Due.due("action 1 alone", x.way(s, 1, 1), -2);
                Due.due("a refused action 0", x.way(s, 0, 0), -3);
                Due.due("action 1 after it", x.way(s, 1, 1), -2);
                Due.due("action 0", x.way(s, 0, 1), 1);
                Due.due("action 1 beside 0", x.way(s, 1, 1), 1);
                x.still(s);
                Due.due("action 1 after still", x.way(s, 1, 1), -2);
                x.way(s, 0, 1);
            }
        }
    }

    /** "-3 if next is not a good state" */
    private static void wayToBadNext() {
        for (int n = 2; n <= 6; n++) {
            for (int next = 0; next < 200; next++) {
                ChanceForests x = new ChanceForests(n);
                Due.due("next " + next + " of " + n, x.way(0, 0, to(next, 1)), next < n ? 1 : -3);
                Due.due("next " + next + " of " + n, x.way(1, 0, to(next, 9)), next < n ? 1 : -3);
            }
            ChanceForests x = new ChanceForests(n);
            for (int power = 12; power < 31; power++) {
                Due.due("next far off", x.way(0, 0, (1 << power) + 1), -3);
                Due.due("next far off", x.way(0, 0, (1 << power) + 16 + 9), -3);
            }
            Due.due("next farthest off", x.way(0, 0, MOST), -3);
            Due.due("next farthest off, share 9", x.way(0, 0, MOST - 6), -3);
            Due.due("no action came of it", x.actions(0), 0);
        }
    }

    /** "or share is not in 1 .. 9" */
    private static void wayOfBadShare() {
        for (int n = 2; n <= 6; n++) {
            for (int next = 0; next < n; next++) {
                for (int share = 0; share < 16; share++) {
                    ChanceForests x = new ChanceForests(n);
                    boolean isGood = share >= 1 && share <= 9;
                    Due.due("share " + share + " to " + next, x.way(0, 0, to(next, share)), isGood ? 1 : -3);
                    Due.due("action of share " + share, x.actions(0), isGood ? 1 : 0);
                }
            }
        }
    }

    /** "(or way is negative)" */
    private static void wayNegative() {
        for (int n = 2; n <= 6; n++) {
            ChanceForests x = new ChanceForests(n);
            for (int way = -1; way >= -150; way--) {
                Due.due("way " + way, x.way(0, 0, way), -3);
            }
            for (int i = 0; i < 100; i++) {
                Due.due("way " + (LEAST + i), x.way(0, 0, LEAST + i), -3);
                Due.due("way " + (-65536 + i), x.way(0, 0, -65536 + i), -3);
            }
            Due.due("no action came of it", x.actions(0), 0);
        }
    }

    /** "-4 if the action has 3 ways" */
    private static void wayOfFullAction() {
        for (int n = 2; n <= 6; n++) {
            ChanceForests x = new ChanceForests(n);
            for (int s = 0; s < n; s++) {
                for (int action = 0; action < 2; action++) {
                    x.way(s, action, to(s, 9));
                    x.way(s, action, to(s, 9));
                    Due.due("a third way", x.way(s, action, to(s, 9)), 3);
                    Due.due("a fourth way", x.way(s, action, to(s, 9)), -4);
                    Due.due("and again", x.way(s, action, to(0, 1)), -4);
                }
            }
            x.still(n - 1);
            Due.due("room again after still", x.way(n - 1, 0, 1), 1);
            Due.due("the other states are full as before", x.way(0, 0, 1), -4);
        }
    }

    /** "otherwise answers how many ways it has now." */
    private static void wayAnswersTheCount() {
        for (int n = 2; n <= 6; n++) {
            ChanceForests x = new ChanceForests(n);
            for (int count = 1; count <= 3; count++) {
                for (int s = 0; s < n; s++) {
                    Due.due("ways of action 0", x.way(s, 0, to(s, count)), count);
                    Due.due("ways of action 1", x.way(s, 1, to(s, count)), count);
                }
            }
        }
    }

    /** A call with a bad state, for every n and before and after the states have actions. */
    private static void dueRefused(String name, ToLongBiFunction<ChanceForests, Integer> call) {
        for (int n = 2; n <= 6; n++) {
            ChanceForests x = new ChanceForests(n);
            for (int bad : outside(n)) {
                Due.due(name + ", n " + n + ", state " + bad, call.applyAsLong(x, bad), -1);
            }
            for (int s = 0; s < n; s++) {
                x.way(s, 0, to(n - 1, 1));
                x.way(s, 1, to(0, 1));
            }
            x.goal(n - 1, 1);
            for (int bad : outside(n)) {
                Due.due(name + ", filled, n " + n + ", state " + bad, call.applyAsLong(x, bad), -1);
            }
        }
    }

    // Promise 4

    private static void still() {
        stillTakesAllAway();
        stillOfBadState();
        stillAnswersHowMany();
    }

    /** "Takes all actions of a state away" */
    private static void stillTakesAllAway() {
        for (int n = 3; n <= 6; n++) {
            for (int s = 0; s < n - 1; s++) {
                ChanceForests x = toTheLast(n);
                x.still(s);
                Due.due("actions of the state", x.actions(s), 0);
                dueBest("the state", x, s, 0, 1);
                Due.due("all others go on", x.sure(), all(n) - (1 << s));
                Due.due("action 1 is gone", x.way(s, 1, to(n - 1, 1)), -2);
                Due.due("the ways of action 0 are gone", x.way(s, 0, to(s, 1)), 1);
                Due.due("the ways of action 1 are gone", x.way(s, 1, to(s, 1)), 1);
                dueBest("the old ways are gone", x, s, 0, 1);
                Due.due("the other states keep their ways", x.way((s + 1) % (n - 1), 1, to(0, 1)), 2);
            }
        }
        ChanceForests x = new ChanceForests(2);
        x.goal(1, 1);
        x.still(1);
        Due.due("a goal stays one", x.goal(1, 1), 1);
    }

    /** All states but the last go to the last, a goal, by both actions. */
    private static ChanceForests toTheLast(int n) {
        ChanceForests x = new ChanceForests(n);
        x.goal(n - 1, 1);
        for (int s = 0; s < n - 1; s++) {
            x.way(s, 0, to(n - 1, 1));
            x.way(s, 1, to(n - 1, 2));
        }
        return x;
    }

    /** "-1 if state is not good" */
    private static void stillOfBadState() {
        dueRefused("still", (x, bad) -> x.still(bad));
    }

    /** "otherwise answers how many it had." */
    private static void stillAnswersHowMany() {
        for (int n = 2; n <= 6; n++) {
            ChanceForests x = new ChanceForests(n);
            for (int s = 0; s < n; s++) {
                Due.due("had none", x.still(s), 0);
                x.way(s, 0, 1);
                x.way(s, 0, 1);
                x.way(s, 0, 1);
                Due.due("had one of three ways", x.still(s), 1);
                Due.due("has none any more", x.still(s), 0);
                x.way(s, 0, 1);
                x.way(s, 1, 1);
                x.way(s, 1, 1);
                Due.due("had two", x.still(s), 2);
                Due.due("has none any more", x.still(s), 0);
                x.goal(s, 1);
                Due.due("a goal that had none", x.still(s), 0);
            }
        }
    }

    // Promise 5

    private static void goal() {
        goalByAnyFlag();
        goalOfBadState();
        goalAnswersBefore();
    }

    /** "Makes a state a goal (flag not 0) or not (flag 0)." */
    private static void goalByAnyFlag() {
        for (int flag : new int[] {LEAST, -65536, -256, -2, -1, 1, 2, 3, 4, 8, 16, 256, 65536, 1 << 30, MOST}) {
            for (int n = 2; n <= 6; n++) {
                ChanceForests x = new ChanceForests(n);
                for (int s = 0; s < n; s++) {
                    x.goal(s, flag);
                    Due.due("a goal by flag " + flag, x.sure(), 1 << s);
                    x.goal(s, flag);
                    Due.due("a goal twice by flag " + flag, x.sure(), 1 << s);
                    x.goal(s, 0);
                    Due.due("no goal by flag 0", x.sure(), 0);
                    x.goal(s, 0);
                    Due.due("no goal twice by flag 0", x.sure(), 0);
                }
            }
        }
        ChanceForests x = new ChanceForests(6);
        for (int s = 0; s < 6; s++) {
            x.goal(s, 1);
        }
        Due.due("all are goals", x.sure(), 63);
        Due.due("all are goals", x.forced(), 63);
        Due.due("all are goals", x.hopeless(), 0);
    }

    /** "-1 if state is not good" */
    private static void goalOfBadState() {
        dueRefused("goal", (x, bad) -> x.goal(bad, 1));
        dueRefused("no goal", (x, bad) -> x.goal(bad, 0));
    }

    /** "otherwise 1 if it was one before, else 0." */
    private static void goalAnswersBefore() {
        for (int n = 2; n <= 6; n++) {
            ChanceForests x = new ChanceForests(n);
            for (int s = 0; s < n; s++) {
                Due.due("was none, stays none", x.goal(s, 0), 0);
                Due.due("was none, becomes one", x.goal(s, 5), 0);
                Due.due("was one, stays one", x.goal(s, -5), 1);
                Due.due("was one, becomes none", x.goal(s, 0), 1);
                Due.due("was none again", x.goal(s, LEAST), 0);
                Due.due("was one by the least flag", x.goal(s, 1), 1);
            }
        }
    }

    // Promise 6

    private static void actions() {
        actionsOfBadState();
        actionsOfAState();
    }

    /** "How many actions a state has" */
    private static void actionsOfAState() {
        for (int n = 2; n <= 6; n++) {
            for (int s = 0; s < n; s++) {
                ChanceForests x = new ChanceForests(n);
                Due.due("none", x.actions(s), 0);
                x.way(s, 0, 1);
                Due.due("one", x.actions(s), 1);
                x.way(s, 1, 1);
                Due.due("two", x.actions(s), 2);
                x.way(s, 1, 1);
                x.way(s, 1, 1);
                x.way(s, 1, 1);
                Due.due("two with a full one", x.actions(s), 2);
                x.goal(s, 1);
                Due.due("a goal keeps them", x.actions(s), 2);
                for (int t = 0; t < n; t++) {
                    Due.due("all actions are of " + s, x.actions(t), t == s ? 2 : 0);
                }
                x.still(s);
                Due.due("none again", x.actions(s), 0);
            }
        }
    }

    /** "-1 if it is not good." */
    private static void actionsOfBadState() {
        dueRefused("actions", (x, bad) -> x.actions(bad));
    }

    // Promises 7 and 8

    private static void chance() {
        planBits();
        planBitsThatDoNotMatter();
        chanceOfBadState();
        planTooSmall();
        planTooLarge();
    }

    /** "plan is the sum of 2^s over the states s with the chosen action 1" */
    private static void planBits() {
        for (int n = 3; n <= 6; n++) {
            ChanceForests x = new ChanceForests(n);
            x.goal(0, 1);
            for (int s = 2; s < n; s++) {
                x.way(s, 0, to(0, 1));
                x.way(s, 0, to(1, 3));
                x.way(s, 1, to(0, 2));
                x.way(s, 1, to(1, 1));
            }
            for (int s = 2; s < n; s++) {
                dueChance("no bit", x, s, 0, 1, 4);
                dueChance("its bit alone", x, s, 1 << s, 2, 3);
                dueChance("all bits but its own", x, s, all(n) - (1 << s), 1, 4);
                dueChance("all bits", x, s, all(n), 2, 3);
            }
        }
    }

    /** "(bits of states without action 1 do not matter)" */
    private static void planBitsThatDoNotMatter() {
        // 0 has one action, 1 is still, 2 is a goal, and 3 has a choice.
        ChanceForests x = new ChanceForests(4);
        x.goal(2, 1);
        x.way(0, 0, to(3, 1));
        x.way(0, 0, to(1, 4));
        x.way(3, 0, to(2, 1));
        x.way(3, 0, to(1, 1));
        x.way(3, 1, to(2, 1));
        x.way(3, 1, to(1, 2));
        for (int bits = 0; bits < 8; bits++) {
            dueChance("one action, other choice 0", x, 0, bits, 1, 10);
            dueChance("one action, other choice 1", x, 0, bits + 8, 1, 15);
            dueChance("still", x, 1, bits, 0, 1);
            dueChance("a goal", x, 2, bits + 8, 1, 1);
            dueChance("a choice, action 0", x, 3, bits, 1, 2);
            dueChance("a choice, action 1", x, 3, bits + 8, 1, 3);
        }
    }

    /** "-1 if state is not good" */
    private static void chanceOfBadState() {
        dueRefused("chanceTop", (x, bad) -> x.chanceTop(bad, 0));
        dueRefused("chanceBottom", (x, bad) -> x.chanceBottom(bad, 0));
    }

    /** "-2 if plan is not in 0 .." */
    private static void planTooSmall() {
        for (int n = 2; n <= 6; n++) {
            ChanceForests x = new ChanceForests(n);
            x.goal(1, 1);
            for (int plan : new int[] {LEAST, LEAST + 1, -65536, -256, -255, -64, -63, -2, -1}) {
                Due.due("chanceTop of plan " + plan, x.chanceTop(1, plan), -2);
                Due.due("chanceBottom of plan " + plan, x.chanceBottom(1, plan), -2);
            }
            Due.due("chanceTop of the least plan", x.chanceTop(1, 0), 1);
            Due.due("chanceBottom of the least plan", x.chanceBottom(1, 0), 1);
        }
    }

    /** ".. 2^n - 1." */
    private static void planTooLarge() {
        for (int n = 2; n <= 6; n++) {
            ChanceForests x = new ChanceForests(n);
            x.goal(1, 1);
            Due.due("chanceTop of the greatest plan", x.chanceTop(1, all(n)), 1);
            Due.due("chanceBottom of the greatest plan", x.chanceBottom(1, all(n)), 1);
            for (int plan : new int[] {1 << n, (1 << n) + 1, 2 << n, 64, 65, 127, 128, 256, 65536, 1 << 30, MOST}) {
                Due.due("chanceTop of plan " + plan, x.chanceTop(1, plan), -2);
                Due.due("chanceBottom of plan " + plan, x.chanceBottom(1, plan), -2);
            }
        }
    }

    // Promises 9 and 10

    private static void best() {
        bestOfBadState();
        bestByEitherAction();
        bestOfGreatNumbers();
    }

    /** "-1 if state is not good." */
    private static void bestOfBadState() {
        dueRefused("bestTop", (x, bad) -> x.bestTop(bad));
        dueRefused("bestBottom", (x, bad) -> x.bestBottom(bad));
    }

    /** "The numerator of the best chance of a state", "Its denominator": by action 0 or 1, in every state. */
    private static void bestByEitherAction() {
        for (int n = 3; n <= 6; n++) {
            for (int s = 0; s < n - 2; s++) {
                for (int good = 0; good < 2; good++) {
                    ChanceForests x = choice(n, s, good);
                    dueBest("good action " + good, x, s, 3, 4);
                    dueBest("a still state", x, n - 2, 0, 1);
                    dueBest("a goal", x, n - 1, 1, 1);
                }
            }
        }
    }

    /** State s has 3/4 by its good action and 1/3 by the other one. */
    private static ChanceForests choice(int n, int s, int good) {
        ChanceForests x = new ChanceForests(n);
        x.goal(n - 1, 1);
        for (int action = 0; action < 2; action++) {
            x.way(s, action, to(n - 1, action == good ? 3 : 1));
            x.way(s, action, to(n - 2, action == good ? 1 : 2));
        }
        return x;
    }

    /** The greater and the lesser of two chances whose products by crosses do not fit into an int. */
    private static void bestOfGreatNumbers() {
        ChanceForests x = greatNumbers();
        x.way(0, 1, to(1, 9));
        x.way(0, 1, to(1, 2));
        x.way(0, 1, to(4, 5));
        dueBest("11/16 rather than 17/26", x, 0, 54043, 281216);
        dueWorst("17/26 rather than 11/16", x, 0, 83521, 456976);
        Due.due("11/16 rather than 17/26", x.bestPlan(), 1);
    }

    /** Four steps of 17/26 each from 0 to the goal, 5, and else to 4, which is still. */
    private static ChanceForests greatNumbers() {
        ChanceForests x = new ChanceForests(6);
        x.goal(5, 1);
        for (int s = 0; s < 4; s++) {
            int next = s == 3 ? 5 : s + 1;
            x.way(s, 0, to(next, 9));
            x.way(s, 0, to(next, 8));
            x.way(s, 0, to(4, 9));
        }
        return x;
    }

    // Promises 11 and 12

    private static void worst() {
        worstOfBadState();
        worstByEitherAction();
    }

    /** "-1 if state is not good." */
    private static void worstOfBadState() {
        dueRefused("worstTop", (x, bad) -> x.worstTop(bad));
        dueRefused("worstBottom", (x, bad) -> x.worstBottom(bad));
    }

    /** "The numerator of the worst chance of a state", "Its denominator": by action 0 or 1, in every state. */
    private static void worstByEitherAction() {
        for (int n = 3; n <= 6; n++) {
            for (int s = 0; s < n - 2; s++) {
                for (int good = 0; good < 2; good++) {
                    ChanceForests x = choice(n, s, good);
                    dueWorst("good action " + good, x, s, 1, 3);
                    dueWorst("a still state", x, n - 2, 0, 1);
                    dueWorst("a goal", x, n - 1, 1, 1);
                }
            }
        }
    }

    // Promise 13

    private static void bestPlan() {
        bestPlanIsLeast();
        bestPlanBits();
        bestPlanForAllStates();
    }

    /** "The least plan number" */
    private static void bestPlanIsLeast() {
        for (int n = 2; n <= 6; n++) {
            ChanceForests x = new ChanceForests(n);
            for (int s = 0; s < n; s++) {
                x.way(s, 0, to((s + 1) % n, 1));
                x.way(s, 1, to((s + 1) % n, 2));
            }
            Due.due("no goal: all plans are best", x.bestPlan(), 0);
            x.goal(n - 1, 1);
            Due.due("both actions are as good", x.bestPlan(), 0);
            for (int s = 0; s < n; s++) {
                x.goal(s, 1);
            }
            Due.due("all are goals: all plans are best", x.bestPlan(), 0);
        }
        // A circle that each of its states can leave for the goal: one must, and the first has the least bit.
        for (int n = 3; n <= 6; n++) {
            ChanceForests x = new ChanceForests(n);
            x.goal(n - 1, 1);
            for (int s = 0; s < n - 1; s++) {
                x.way(s, 0, to((s + 1) % (n - 1), 1));
                x.way(s, 1, to(n - 1, 1));
            }
            Due.due("one must leave the circle", x.bestPlan(), 1);
        }
    }

    /** "with bits only of states that have an action 1" */
    private static void bestPlanBits() {
        for (int n = 3; n <= 6; n++) {
            for (int s = 0; s < n - 2; s++) {
                Due.due("action 1 is the better one", choice(n, s, 1).bestPlan(), 1 << s);
                Due.due("action 0 is the better one", choice(n, s, 0).bestPlan(), 0);
                ChanceForests x = choice(n, s, 1);
                x.still(s);
                Due.due("a still state has no bit", x.bestPlan(), 0);
                x.way(s, 0, to(n - 1, 1));
                Due.due("a state with one action has no bit", x.bestPlan(), 0);
                x.way(s, 1, to(n - 1, 1));
                Due.due("a state with a worse action 1 has no bit", x.bestPlan(), 0);
            }
        }
    }

    /** "under which all states have their best chances." */
    private static void bestPlanForAllStates() {
        // Each of the four needs its own bit, and no other one.
        ChanceForests x = new ChanceForests(6);
        x.goal(5, 1);
        for (int s = 0; s < 4; s++) {
            x.way(s, 0, to(4, 1));
            x.way(s, 1, to(5, 1));
            Due.due("every state's best", x.bestPlan(), all(s + 1));
        }
        // Plan 0 is best for all states but the last.
        ChanceForests y = new ChanceForests(6);
        y.goal(4, 1);
        y.way(5, 0, to(0, 1));
        y.way(5, 1, to(4, 1));
        Due.due("the last state's best", y.bestPlan(), 32);
        // Going on by action 1 is better only where the next state goes on as well.
        ChanceForests z = new ChanceForests(4);
        z.goal(3, 1);
        z.way(0, 0, to(3, 1));
        z.way(0, 0, to(2, 1));
        z.way(0, 1, to(1, 1));
        z.way(1, 0, to(2, 1));
        z.way(1, 1, to(3, 3));
        z.way(1, 1, to(2, 1));
        Due.due("both have to go on", z.bestPlan(), 3);
        dueChance("one alone goes on", z, 0, 1, 0, 1);
        dueChance("both go on", z, 0, 3, 3, 4);
    }

    // Promises 14, 15 and 16

    private static void sets() {
        sureWhereBestIsOne();
        hopelessWhereBestIsZero();
        forcedWhereWorstIsMore();
    }

    /** "The set, as the sum of 2^s, of the states whose best chance is 1." */
    private static void sureWhereBestIsOne() {
        for (int n = 3; n <= 6; n++) {
            for (int s = 0; s < n - 2; s++) {
                ChanceForests x = new ChanceForests(n);
                x.goal(n - 1, 1);
                Due.due("a goal alone", x.sure(), 1 << n - 1);
                x.way(s, 0, to(n - 1, 9));
                x.way(s, 0, to(n - 1, 9));
                x.way(s, 0, to(n - 2, 1));
                Due.due("18 of 19 is not sure", x.sure(), 1 << n - 1);
                x.way(s, 1, to(s, 9));
                x.way(s, 1, to(n - 1, 1));
                Due.due("sure in the long run, by choice", x.sure(), (1 << n - 1) + (1 << s));
                x.goal(n - 1, 0);
                Due.due("none without a goal", x.sure(), 0);
            }
        }
        // Of 19^4 walks but one is lost.
        ChanceForests x = rarely(4, 5);
        dueBest("all but one", x, 0, 130320, 130321);
        Due.due("all but one of 130321 is not sure", x.sure(), 32);
    }

    /** "The set of the states whose best chance is 0." */
    private static void hopelessWhereBestIsZero() {
        for (int n = 3; n <= 6; n++) {
            for (int s = 0; s < n - 2; s++) {
                ChanceForests x = new ChanceForests(n);
                Due.due("all without a goal", x.hopeless(), all(n));
                x.goal(n - 1, 1);
                Due.due("all but the goal", x.hopeless(), all(n - 1));
                x.way(s, 0, to(s, 1));
                Due.due("staying is hopeless", x.hopeless(), all(n - 1));
                x.way(s, 1, to(n - 2, 9));
                Due.due("both actions are hopeless", x.hopeless(), all(n - 1));
                x.way(s, 1, to(n - 1, 1));
                Due.due("a tenth, by choice, is not hopeless", x.hopeless(), all(n - 1) - (1 << s));
            }
        }
        ChanceForests x = rarely(5, 4);
        dueBest("one", x, 0, 1, 130321);
        Due.due("one of 130321 is not hopeless", x.hopeless(), 16);
    }

    /** "The set of the states whose worst chance is greater than 0." */
    private static void forcedWhereWorstIsMore() {
        for (int n = 3; n <= 6; n++) {
            for (int s = 0; s < n - 2; s++) {
                ChanceForests x = new ChanceForests(n);
                Due.due("none without a goal", x.forced(), 0);
                x.goal(n - 1, 1);
                Due.due("the goal alone", x.forced(), 1 << n - 1);
                x.way(s, 0, to(n - 1, 1));
                x.way(s, 0, to(n - 2, 9));
                Due.due("a tenth is forced", x.forced(), (1 << n - 1) + (1 << s));
                x.way(s, 1, to(n - 1, 1));
                Due.due("a tenth or all is forced", x.forced(), (1 << n - 1) + (1 << s));
                x.still(s);
                x.way(s, 0, to(n - 1, 1));
                x.way(s, 1, to(s, 1));
                Due.due("staying by choice is not forced", x.forced(), 1 << n - 1);
                x.way(n - 1, 0, to(n - 2, 1));
                Due.due("a goal that leads away is forced", x.forced(), 1 << n - 1);
            }
        }
        ChanceForests x = rarely(5, 4);
        dueWorst("one", x, 0, 1, 130321);
        Due.due("one of 130321 is forced", x.forced(), 47);
    }

    /** By four steps of 1 of 19 each from 0 to one state, else to the other; 5 is the goal and 4 is still. */
    private static ChanceForests rarely(int rare, int often) {
        ChanceForests x = new ChanceForests(6);
        x.goal(5, 1);
        for (int s = 0; s < 4; s++) {
            x.way(s, 0, to(s == 3 ? rare : s + 1, 1));
            x.way(s, 0, to(often, 9));
            x.way(s, 0, to(often, 9));
        }
        return x;
    }

    // Promise 17

    private static void compare() {
        compareGreater();
        compareSame();
        compareLess();
        compareOfBadFirst();
        compareOfBadSecond();
    }

    /** 1/2 and 1/2 from 0 and 1 by different shares, 3/5 by choice or 0 from 2; 4 is still, 5 is the goal. */
    private static ChanceForests three() {
        ChanceForests x = new ChanceForests(6);
        x.goal(5, 1);
        x.way(0, 0, to(5, 1));
        x.way(0, 0, to(4, 1));
        x.way(1, 0, to(5, 7));
        x.way(1, 0, to(4, 7));
        x.way(2, 0, to(4, 1));
        x.way(2, 1, to(5, 3));
        x.way(2, 1, to(4, 2));
        return x;
    }

    /** "1 if the best chance of s is greater than that of t" */
    private static void compareGreater() {
        ChanceForests x = three();
        Due.due("3/5 and 1/2", x.compare(2, 0), 1);
        Due.due("1/2 and 0", x.compare(0, 4), 1);
        Due.due("1 and 0", x.compare(5, 4), 1);
        Due.due("1 and 3/5", x.compare(5, 2), 1);
        Due.due("8/23 and 9/26, times 81/676", nearlySame().compare(1, 0), 1);
        Due.due("(17/26)^3 and (17/26)^4", greatNumbers().compare(1, 0), 1);
        Due.due("one of 130321 and 0", rarely(5, 4).compare(0, 4), 1);
        Due.due("1 and all but one of 130321", rarely(4, 5).compare(5, 0), 1);
    }

    /** "0 if they are the same" */
    private static void compareSame() {
        ChanceForests x = three();
        Due.due("1/2 and 7/14", x.compare(0, 1), 0);
        Due.due("7/14 and 1/2", x.compare(1, 0), 0);
        Due.due("0 and 0", x.compare(4, 3), 0);
        x.goal(3, 1);
        Due.due("1 and 1", x.compare(3, 5), 0);
        for (int n = 2; n <= 6; n++) {
            ChanceForests y = new ChanceForests(n);
            y.goal(0, 1);
            y.way(1, 0, to(0, 1));
            for (int s = 0; s < n; s++) {
                Due.due("a state and itself", y.compare(s, s), 0);
            }
        }
    }

    /** "2 if it is less." */
    private static void compareLess() {
        ChanceForests x = three();
        Due.due("1/2 and 3/5", x.compare(0, 2), 2);
        Due.due("0 and 1/2", x.compare(4, 0), 2);
        Due.due("0 and 1", x.compare(4, 5), 2);
        Due.due("3/5 and 1", x.compare(2, 5), 2);
        Due.due("9/26 and 8/23, times 81/676", nearlySame().compare(0, 1), 2);
        Due.due("(17/26)^4 and (17/26)^3", greatNumbers().compare(0, 1), 2);
        Due.due("0 and one of 130321", rarely(5, 4).compare(4, 0), 2);
        Due.due("all but one of 130321 and 1", rarely(4, 5).compare(0, 5), 2);
    }

    /** 0 and 1 go on to 2 with 9/26 and 8/23, and 2 to 3 and 3 to the goal with 9/26 each. */
    private static ChanceForests nearlySame() {
        ChanceForests x = new ChanceForests(6);
        x.goal(5, 1);
        for (int s = 0; s < 4; s++) {
            x.way(s, 0, to(s == 0 ? 2 : s == 3 ? 5 : s + 1, s == 1 ? 8 : 9));
            x.way(s, 0, to(4, s == 1 ? 8 : 9));
            x.way(s, 0, to(4, s == 1 ? 7 : 8));
        }
        return x;
    }

    /** "-1 if s ... is not good." */
    private static void compareOfBadFirst() {
        dueRefused("compare", (x, bad) -> x.compare(bad, 0));
        dueRefused("compare", (x, bad) -> x.compare(bad, 1));
    }

    /** "-1 if ... t is not good." */
    private static void compareOfBadSecond() {
        dueRefused("compare", (x, bad) -> x.compare(0, bad));
        dueRefused("compare", (x, bad) -> x.compare(1, bad));
        dueRefused("compare", (x, bad) -> x.compare(bad, bad));
    }
}
