import java.util.ArrayList;
import java.util.List;

/**
 * The document's words again, by another road than the program's: no equation is solved here. A chance is
 * the weight of the forests that bear its state to a goal, divided by the weight of all forests, where a
 * forest is a choice of one way for every state with an unknown chance that holds no circle.
 */
final class ForestModel {
    private final int n;
    private final List<List<List<int[]>>> ways = new ArrayList<>();
    private final boolean[] goal;
    private long[][][] chances = null;

    ForestModel(int states) {
        n = Math.max(2, Math.min(6, states));
        goal = new boolean[n];
        for (int s = 0; s < n; s++) {
            ways.add(new ArrayList<>());
        }
    }

    int states() {
        return n;
    }

    private boolean good(int state) {
        return 0 <= state && state < n;
    }

    int way(int state, int action, int way) {
        if (!good(state)) {
            return -1;
        }
        List<List<int[]>> own = ways.get(state);
        if (action != 0 && action != 1 || action == 1 && own.isEmpty()) {
            return -2;
        }
        if (way < 0 || !good(way / 16) || way % 16 < 1 || way % 16 > 9) {
            return -3;
        }
        if (action < own.size() && own.get(action).size() == 3) {
            return -4;
        }
        if (action == own.size()) {
            own.add(new ArrayList<>());
        }
        own.get(action).add(new int[] {way / 16, way % 16});
        chances = null;
        return own.get(action).size();
    }

    int still(int state) {
        if (!good(state)) {
            return -1;
        }
        int had = ways.get(state).size();
        ways.get(state).clear();
        chances = null;
        return had;
    }

    int goal(int state, int flag) {
        if (!good(state)) {
            return -1;
        }
        int was = goal[state] ? 1 : 0;
        goal[state] = flag != 0;
        chances = null;
        return was;
    }

    int actions(int state) {
        return good(state) ? ways.get(state).size() : -1;
    }

    long chance(int state, int plan, int part) {
        if (!good(state)) {
            return -1;
        }
        if (plan < 0 || plan >= 1 << n) {
            return -2;
        }
        return allChances()[plan][state][part];
    }

    long best(int state, int part) {
        return good(state) ? extreme(state, 1)[part] : -1;
    }

    long worst(int state, int part) {
        return good(state) ? extreme(state, -1)[part] : -1;
    }

    int bestPlan() {
        int free = 0;
        for (int s = 0; s < n; s++) {
            free |= ways.get(s).size() == 2 ? 1 << s : 0;
        }
        for (int plan = 0; plan < 1 << n; plan++) {
            boolean all = (plan & ~free) == 0;
            for (int s = 0; s < n; s++) {
                all &= order(allChances()[plan][s], extreme(s, 1)) == 0;
            }
            if (all) {
                return plan;
            }
        }
        throw new IllegalStateException("no plan is best for all states");
    }

    int sure() {
        int set = 0;
        for (int s = 0; s < n; s++) {
            set |= order(extreme(s, 1), new long[] {1, 1}) == 0 ? 1 << s : 0;
        }
        return set;
    }

    int hopeless() {
        int set = 0;
        for (int s = 0; s < n; s++) {
            set |= order(extreme(s, 1), new long[] {0, 1}) == 0 ? 1 << s : 0;
        }
        return set;
    }

    int forced() {
        int set = 0;
        for (int s = 0; s < n; s++) {
            set |= order(extreme(s, -1), new long[] {0, 1}) > 0 ? 1 << s : 0;
        }
        return set;
    }

    int compare(int s, int t) {
        if (!good(s) || !good(t)) {
            return -1;
        }
        int order = order(extreme(s, 1), extreme(t, 1));
        return order > 0 ? 1 : order < 0 ? 2 : 0;
    }

    private static int order(long[] a, long[] b) {
        return Long.compare(Math.multiplyExact(a[0], b[1]), Math.multiplyExact(b[0], a[1]));
    }

    private long[] extreme(int state, int direction) {
        long[] found = allChances()[0][state];
        for (long[][] plan : allChances()) {
            if (order(plan[state], found) * direction > 0) {
                found = plan[state];
            }
        }
        return found;
    }

    private long[][][] allChances() {
        if (chances == null) {
            chances = new long[1 << n][][];
            for (int plan = 0; plan < 1 << n; plan++) {
                chances[plan] = chancesUnder(plan);
            }
        }
        return chances;
    }

    private List<int[]> chosen(int state, int plan) {
        List<List<int[]>> own = ways.get(state);
        if (own.isEmpty()) {
            return List.of();
        }
        return own.get(own.size() == 2 && (plan >> state & 1) == 1 ? 1 : 0);
    }

    private boolean[] unknownStates(int plan) {
        boolean[][] path = new boolean[n][n];
        for (int s = 0; s < n; s++) {
            for (int[] way : chosen(s, plan)) {
                path[s][way[0]] = true;
            }
        }
        for (int via = 0; via < n; via++) {
            for (int s = 0; s < n; s++) {
                for (int t = 0; t < n; t++) {
                    path[s][t] |= path[s][via] && path[via][t];
                }
            }
        }
        boolean[] unknown = new boolean[n];
        for (int s = 0; s < n; s++) {
            for (int t = 0; t < n; t++) {
                unknown[s] |= !goal[s] && goal[t] && path[s][t];
            }
        }
        return unknown;
    }

    private long[][] chancesUnder(int plan) {
        boolean[] unknown = unknownStates(plan);
        int[] radix = new int[n];
        int choices = 1;
        for (int s = 0; s < n; s++) {
            radix[s] = unknown[s] ? chosen(s, plan).size() : 1;
            choices *= radix[s];
        }
        long all = 0;
        long[] bearing = new long[n];
        for (int choice = 0; choice < choices; choice++) {
            int rest = choice;
            long weight = 1;
            int[] next = new int[n];
            for (int s = 0; s < n; s++) {
                next[s] = s;
                if (unknown[s]) {
                    int[] way = chosen(s, plan).get(rest % radix[s]);
                    next[s] = way[0];
                    weight *= way[1];
                }
                rest /= radix[s];
            }
            int[] end = new int[n];
            boolean circle = false;
            for (int s = 0; s < n; s++) {
                end[s] = s;
                for (int step = 0; step < n; step++) {
                    end[s] = next[end[s]];
                }
                circle |= unknown[end[s]];
            }
            if (!circle) {
                all += weight;
                for (int s = 0; s < n; s++) {
                    bearing[s] += goal[end[s]] ? weight : 0;
                }
            }
        }
        long[][] found = new long[n][];
        for (int s = 0; s < n; s++) {
            found[s] = lowest(bearing[s], all);
        }
        return found;
    }

    private static long[] lowest(long top, long bottom) {
        long divisor = gcd(top, bottom);
        return new long[] {top / divisor, bottom / divisor};
    }

    private static long gcd(long a, long b) {
        return b == 0 ? a : gcd(b, a % b);
    }
}
