import java.util.Random;

/** Long runs of mixed calls, each answered by the program and by the model; the seeds are fixed. */
public final class ModelTest {
    private static final int OBJECTS = 400;
    private static final int CALLS = 512;

    private final Random random;
    private final ChanceForests x;
    private final ForestModel model;
    private final String name;
    private final int changesInTen;
    private final boolean largeShares;

    private ModelTest(int seed) {
        random = new Random(seed);
        int states = seed % 3 == 0 ? random.nextInt(10) - 1 : 3 + random.nextInt(4);
        x = new ChanceForests(states);
        model = new ForestModel(states);
        name = "seed " + seed + ", states " + states;
        changesInTen = 1 + random.nextInt(3);
        largeShares = random.nextBoolean();
    }

    public static void main(String[] args) {
        for (int seed = 0; seed < OBJECTS; seed++) {
            new ModelTest(seed).run();
        }
        Due.end();
    }

    private void run() {
        int calls = fill();
        while (calls < CALLS) {
            if (random.nextInt(10) < changesInTen) {
                change();
            } else {
                ask();
            }
            calls++;
        }
    }

    /** Without this most states would stay still for long, and chances would be dull. */
    private int fill() {
        int calls = 0;
        for (int state = 0; state < model.states(); state++) {
            for (int action = 0; action < 2; action++) {
                int count = random.nextInt(4);
                for (int i = 0; i < count; i++) {
                    way(state, action, goodWay());
                    calls++;
                }
            }
        }
        goal(random.nextInt(model.states()), 1);
        return calls + 1;
    }

    private int anyState() {
        if (random.nextInt(20) == 0) {
            int[] odd = {-1, model.states(), 6, Integer.MIN_VALUE, Integer.MAX_VALUE};
            return odd[random.nextInt(odd.length)];
        }
        return random.nextInt(model.states());
    }

    private int goodWay() {
        int share = largeShares ? 7 + random.nextInt(3) : 1 + random.nextInt(9);
        return 16 * random.nextInt(model.states()) + share;
    }

    private int anyWay() {
        if (random.nextInt(8) == 0) {
            return random.nextInt(8) == 0 ? random.nextInt() : random.nextInt(140) - 20;
        }
        return goodWay();
    }

    private int anyPlan() {
        return random.nextInt(15) == 0 ? random.nextInt(200) - 60 : random.nextInt(1 << model.states());
    }

    private void change() {
        int kind = random.nextInt(12);
        if (kind == 0) {
            int state = anyState();
            Due.due(name + ": still(" + state + ")", x.still(state), model.still(state));
        } else if (kind <= 2) {
            goal(anyState(), random.nextInt(3) - 1);
        } else {
            way(anyState(), random.nextInt(30) == 0 ? random.nextInt(5) - 2 : random.nextInt(2), anyWay());
        }
    }

    private void goal(int state, int flag) {
        Due.due(name + ": goal(" + state + ", " + flag + ")", x.goal(state, flag), model.goal(state, flag));
    }

    private void way(int state, int action, int way) {
        String call = name + ": way(" + state + ", " + action + ", " + way + ")";
        Due.due(call, x.way(state, action, way), model.way(state, action, way));
    }

    private void ask() {
        int s = anyState();
        int t = anyState();
        int plan = anyPlan();
        String call = name + ", s " + s + ", t " + t + ", plan " + plan + ": ";
        switch (random.nextInt(13)) {
            case 0 -> Due.due(call + "states", x.states(), model.states());
            case 1 -> Due.due(call + "actions", x.actions(s), model.actions(s));
            case 2 -> Due.due(call + "chanceTop", x.chanceTop(s, plan), model.chance(s, plan, 0));
            case 3 -> Due.due(call + "chanceBottom", x.chanceBottom(s, plan), model.chance(s, plan, 1));
            case 4 -> Due.due(call + "bestTop", x.bestTop(s), model.best(s, 0));
            case 5 -> Due.due(call + "bestBottom", x.bestBottom(s), model.best(s, 1));
            case 6 -> Due.due(call + "worstTop", x.worstTop(s), model.worst(s, 0));
            case 7 -> Due.due(call + "worstBottom", x.worstBottom(s), model.worst(s, 1));
            case 8 -> Due.due(call + "bestPlan", x.bestPlan(), model.bestPlan());
            case 9 -> Due.due(call + "sure", x.sure(), model.sure());
            case 10 -> Due.due(call + "hopeless", x.hopeless(), model.hopeless());
            case 11 -> Due.due(call + "forced", x.forced(), model.forced());
            default -> Due.due(call + "compare", x.compare(s, t), model.compare(s, t));
        }
    }
}
