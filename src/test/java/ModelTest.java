import java.util.ArrayList;
import java.util.List;

/**
 * Long mixed runs of calls beside a slow model that takes the document by its words:
 * it lists every structure and every order, and asks each of them.
 */
public final class ModelTest {
    private static final int RUNS = 300;
    private static final int CALLS = 512;
    private static final int NONE = -100000;
    private static final List<int[]> STRUCTURES = structures();
    private static final List<int[]> ORDERS = allOrders();

    // The state of the model.
    private int[][] scores = new int[4][16];
    private int[][] kinds = new int[4][4];
    private int limit = 3;

    // A fixed sequence of numbers, so that every run of the test is the same.
    private static long seed = 20261115L;

    public static void main(String[] args) {
        Check.due("structures without a circle", STRUCTURES.size(), 543);
        Check.due("orders", ORDERS.size(), 24);
        for (int run = 0; run < RUNS && Check.wrongSoFar() < 20; run++) {
            new ModelTest().run(run);
        }
        Check.end();
    }

    private static int next(int bound) {
        seed = seed * 6364136223846793005L + 1442695040888963407L;
        return (int) ((seed >>> 33) % bound);
    }

    private static long nextLong() {
        long high = next(Integer.MAX_VALUE);
        return high << 33 ^ (long) next(Integer.MAX_VALUE) << 11 ^ next(Integer.MAX_VALUE);
    }

    private static List<int[]> structures() {
        List<int[]> found = new ArrayList<>();
        for (int code = 0; code < 1 << 16; code++) {
            int[] parents = {code >> 12, code >> 8 & 15, code >> 4 & 15, code & 15};
            if (!hasCircle(parents)) {
                found.add(parents);
            }
        }
        return found;
    }

    private static boolean hasCircle(int[] parents) {
        boolean[][] reach = new boolean[4][4];
        for (int u = 0; u < 4; u++) {
            for (int v = 0; v < 4; v++) {
                reach[u][v] = has(parents, u, v);
            }
        }
        for (int m = 0; m < 4; m++) {
            for (int u = 0; u < 4; u++) {
                for (int v = 0; v < 4; v++) {
                    reach[u][v] |= reach[u][m] && reach[m][v];
                }
            }
        }
        return reach[0][0] || reach[1][1] || reach[2][2] || reach[3][3];
    }

    private static List<int[]> allOrders() {
        List<int[]> found = new ArrayList<>();
        for (int code = 0; code < 256; code++) {
            int[] order = {code >> 6, code >> 4 & 3, code >> 2 & 3, code & 3};
            int met = 1 << order[0] | 1 << order[1] | 1 << order[2] | 1 << order[3];
            if (met == 15) {
                found.add(order);
            }
        }
        return found;
    }

    private static boolean has(int[] structure, int u, int v) {
        return (structure[v] >> u & 1) == 1;
    }

    private static boolean keepsTo(int[] structure, int[] order) {
        for (int i = 0; i < 4; i++) {
            for (int j = i; j < 4; j++) {
                if (has(structure, order[j], order[i])) {
                    return false;
                }
            }
        }
        return true;
    }

    private boolean isAllowed(int[] structure) {
        for (int v = 0; v < 4; v++) {
            if (Integer.bitCount(structure[v]) > limit) {
                return false;
            }
            for (int u = 0; u < 4; u++) {
                if (kinds[u][v] == (has(structure, u, v) ? 1 : 2)) {
                    return false;
                }
            }
        }
        return true;
    }

    private int worth(int[] structure) {
        int sum = 0;
        for (int v = 0; v < 4; v++) {
            sum += scores[v][structure[v]];
        }
        return sum;
    }

    private int greatest(List<int[]> among) {
        int greatest = NONE;
        for (int[] structure : among) {
            greatest = Math.max(greatest, worth(structure));
        }
        return greatest;
    }

    private List<int[]> allowed() {
        List<int[]> found = new ArrayList<>();
        for (int[] structure : STRUCTURES) {
            if (isAllowed(structure)) {
                found.add(structure);
            }
        }
        return found;
    }

    private List<int[]> allOfTheBest() {
        List<int[]> all = allowed();
        int greatest = greatest(all);
        all.removeIf(structure -> worth(structure) != greatest);
        return all;
    }

    private static boolean isVariable(int v) {
        return v >= 0 && v <= 3;
    }

    private static boolean isMask(int variable, int parents) {
        return parents >= 0 && parents <= 15 && (parents >> variable & 1) == 0;
    }

    private int score(int variable, int parents, int score) {
        if (!isVariable(variable)) {
            return -1;
        }
        if (!isMask(variable, parents)) {
            return -2;
        }
        if (score < -1000 || score > 1000) {
            return -3;
        }
        scores[variable][parents] = score;
        return 0;
    }

    private int setLimit(int limit) {
        if (limit < 0 || limit > 3) {
            return -4;
        }
        int old = this.limit;
        this.limit = limit;
        return old;
    }

    private int edge(int u, int v, int how) {
        if (!isVariable(u) || !isVariable(v) || u == v) {
            return -1;
        }
        int old = kinds[u][v];
        kinds[u][v] = (how & 3) % 3;
        return old;
    }

    private int learn(long cases) {
        for (int v = 0; v < 4; v++) {
            for (int p = 0; p < 16; p++) {
                if (isMask(v, p)) {
                    scores[v][p] = hits(v, p, cases) - 3 * (1 << Integer.bitCount(p));
                }
            }
        }
        return 0;
    }

    private static int hits(int variable, int parents, long cases) {
        int[][] counts = new int[16][2];
        for (int j = 0; j < 16; j++) {
            int value = (int) (cases >>> 4 * j & 15);
            counts[value & parents][value >> variable & 1]++;
        }
        int hits = 0;
        for (int[] count : counts) {
            hits += Math.max(count[0], count[1]);
        }
        return hits;
    }

    private int parents(int variable) {
        if (!isVariable(variable)) {
            return -1;
        }
        List<int[]> best = allOfTheBest();
        return best.isEmpty() ? NONE : best.get(0)[variable];
    }

    private int bestWhere(int u, int v, boolean with) {
        if (!isVariable(u) || !isVariable(v) || u == v) {
            return -1;
        }
        List<int[]> all = allowed();
        all.removeIf(structure -> has(structure, u, v) != with);
        return greatest(all);
    }

    private int edges() {
        List<int[]> best = allOfTheBest();
        if (best.isEmpty()) {
            return NONE;
        }
        int count = 0;
        for (int mask : best.get(0)) {
            count += Integer.bitCount(mask);
        }
        return count;
    }

    private int orders() {
        List<int[]> best = allOfTheBest();
        int count = 0;
        for (int[] order : ORDERS) {
            if (best.stream().anyMatch(structure -> keepsTo(structure, order))) {
                count++;
            }
        }
        return count;
    }

    private int scoreOf(int variable, int parents) {
        return isVariable(variable) && isMask(variable, parents) ? scores[variable][parents] : 0;
    }

    // Mostly right arguments; now and then one just outside or far outside.
    private static int someVariable() {
        int[] odd = {-1, 4, 32, -29, Integer.MIN_VALUE, Integer.MAX_VALUE};
        return next(25) == 0 ? odd[next(odd.length)] : next(4);
    }

    private static int someParents(int variable) {
        int[] odd = {-1, 16, 31, 1 << (variable & 3), 15, Integer.MIN_VALUE, Integer.MAX_VALUE};
        return next(25) == 0 ? odd[next(odd.length)] : next(16) & ~(1 << (variable & 3));
    }

    private static int someScore(int span) {
        int[] odd = {-1001, 1001, -1000, 1000, Integer.MIN_VALUE, Integer.MAX_VALUE};
        return next(25) == 0 ? odd[next(odd.length)] : next(2 * span + 1) - span;
    }

    private static int someLimit() {
        int[] odd = {-1, 4, Integer.MIN_VALUE, Integer.MAX_VALUE};
        return next(10) == 0 ? odd[next(odd.length)] : 3 - next(8) % 4;
    }

    private static int someHow() {
        return next(10) == 0 ? next(Integer.MAX_VALUE) - (1 << 30) : next(2) * next(4);
    }

    private static long someCases() {
        int kind = next(4);
        if (kind == 0) {
            return nextLong();
        }
        // Fewer different cases make clearer scores and more ties.
        int first = next(16);
        int second = next(16);
        long cases = 0;
        for (int j = 0; j < 16; j++) {
            cases = cases << 4 | (next(kind + 1) == 0 ? first : second);
        }
        return cases;
    }

    private void run(int run) {
        StructureLearner x = new StructureLearner();
        int[] spans = {1, 3, 20, 1000};
        int span = spans[run % spans.length];
        int changes = 20 + next(40);
        for (int call = 0; call < CALLS; call++) {
            String what = "run " + run + ", call " + call + ": ";
            if (next(100) < changes) {
                change(x, what, span);
            } else {
                ask(x, what);
            }
        }
    }

    private void change(StructureLearner x, String what, int span) {
        int kind = next(40);
        if (kind < 26) {
            int v = someVariable();
            int p = someParents(v);
            int s = someScore(span);
            Check.due(what + "score(" + v + ", " + p + ", " + s + ")", x.score(v, p, s), score(v, p, s));
        } else if (kind < 28) {
            int l = someLimit();
            Check.due(what + "limit(" + l + ")", x.limit(l), setLimit(l));
        } else if (kind < 39) {
            int u = someVariable();
            int v = someVariable();
            int how = someHow();
            Check.due(what + "edge(" + u + ", " + v + ", " + how + ")", x.edge(u, v, how), edge(u, v, how));
        } else {
            long cases = someCases();
            Check.due(what + "learn(" + cases + ")", x.learn(cases), learn(cases));
        }
    }

    private void ask(StructureLearner x, String what) {
        int u = someVariable();
        int v = someVariable();
        switch (next(7)) {
            case 0 -> Check.due(what + "best()", x.best(), greatest(allowed()));
            case 1 -> Check.due(what + "parents(" + v + ")", x.parents(v), parents(v));
            case 2 -> Check.due(what + "bestWith(" + u + ", " + v + ")", x.bestWith(u, v), bestWhere(u, v, true));
            case 3 -> Check.due(what + "bestWithout(" + u + ", " + v + ")", x.bestWithout(u, v), bestWhere(u, v, false));
            case 4 -> Check.due(what + "edges()", x.edges(), edges());
            case 5 -> Check.due(what + "orders()", x.orders(), orders());
            default -> {
                int p = someParents(v);
                Check.due(what + "scoreOf(" + v + ", " + p + ")", x.scoreOf(v, p), scoreOf(v, p));
            }
        }
    }
}
