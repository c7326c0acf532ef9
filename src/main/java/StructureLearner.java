/** The best way to explain four variables by each other. */
public final class StructureLearner {
    public static final int BAD_VARIABLE = -1;
    public static final int BAD_PARENTS = -2;
    public static final int BAD_SCORE = -3;
    public static final int BAD_LIMIT = -4;
    public static final int NONE = -100000;

    private static final int VARIABLES = 4;
    private static final int MASKS = 16;
    private static final int CASES = 16;
    private static final int MAX_LIMIT = 3;
    private static final int MAX_SCORE = 1000;
    private static final int FREE = 0;
    private static final int FORBIDDEN = 1;
    private static final int REQUIRED = 2;
    private static final int NO_STRUCTURE = -1;

    // Score of a variable with its parents, at variable * MASKS + parents.
    private final int[] scores = new int[64];
    // What is said of the edge from u to v, at u * VARIABLES + v.
    private final int[] edgeKinds = new int[16];
    private int maxParents;

    public StructureLearner() {
        maxParents = MAX_LIMIT;
    }

    public int score(int variable, int parents, int score) {
        if (!isVariable(variable)) {
            return BAD_VARIABLE;
        }
        if (!isMaskOfOthers(variable, parents)) {
            return BAD_PARENTS;
        }
        if (score < -MAX_SCORE || score > MAX_SCORE) {
            return BAD_SCORE;
        }
        scores[variable * MASKS + parents] = score;
        return 0;
    }

    public int limit(int limit) {
        if (limit < 0 || limit > MAX_LIMIT) {
            return BAD_LIMIT;
        }
        int old = maxParents;
        maxParents = limit;
        return old;
    }

    public int edge(int u, int v, int how) {
        if (!isPair(u, v)) {
            return BAD_VARIABLE;
        }
        int place = u * VARIABLES + v;
        int old = edgeKinds[place];
        int kind = how & 3;
        edgeKinds[place] = kind == 3 ? FREE : kind;
        return old;
    }

    public int learn(long cases) {
        for (int variable = 0; variable < VARIABLES; variable++) {
            for (int parents = 0; parents < MASKS; parents++) {
                if (isMaskOfOthers(variable, parents)) {
                    int settings = 1 << sizeOf(parents);
                    int hits = hitsOf(variable, parents, cases);
                    scores[variable * MASKS + parents] = hits - 3 * settings;
                }
            }
        }
        return 0;
    }

    public int best() {
        int structure = firstBest(0, 0, 0);
        return worthOf(structure);
    }

    public int parents(int variable) {
        if (!isVariable(variable)) {
            return BAD_VARIABLE;
        }
        int structure = firstBest(0, 0, 0);
        if (structure == NO_STRUCTURE) {
            return NONE;
        }
        return parentsIn(structure, variable);
    }

    public int bestWith(int u, int v) {
        if (!isPair(u, v)) {
            return BAD_VARIABLE;
        }
        int structure = firstBest(v, 1 << u, 0);
        return worthOf(structure);
    }

    public int bestWithout(int u, int v) {
        if (!isPair(u, v)) {
            return BAD_VARIABLE;
        }
        int structure = firstBest(v, 0, 1 << u);
        return worthOf(structure);
    }

    public int edges() {
        int structure = firstBest(0, 0, 0);
        if (structure == NO_STRUCTURE) {
            return NONE;
        }
        int count = 0;
        for (int variable = 0; variable < VARIABLES; variable++) {
            int parents = parentsIn(structure, variable);
            count += sizeOf(parents);
        }
        return count;
    }

    public int orders() {
        int structure = firstBest(0, 0, 0);
        if (structure == NO_STRUCTURE) {
            return 0;
        }
        int greatest = worthOf(structure);
        int count = 0;
        for (int a = 0; a < VARIABLES; a++) {
            for (int b = 0; b < VARIABLES; b++) {
                for (int c = 0; c < VARIABLES; c++) {
                    if (a != b && a != c && b != c && worthInOrder(a, b, c) == greatest) {
                        count++;
                    }
                }
            }
        }
        return count;
    }

    public int scoreOf(int variable, int parents) {
        if (!isVariable(variable) || !isMaskOfOthers(variable, parents)) {
            return 0;
        }
        return scores[variable * MASKS + parents];
    }

    private static boolean isVariable(int variable) {
        return variable >= 0 && variable < VARIABLES;
    }

    private static boolean isPair(int u, int v) {
        return isVariable(u) && isVariable(v) && u != v;
    }

    private static boolean isMaskOfOthers(int variable, int parents) {
        return parents >= 0 && parents < MASKS && (parents & (1 << variable)) == 0;
    }

    private static boolean contains(int mask, int variable) {
        return (mask & (1 << variable)) != 0;
    }

    private static int sizeOf(int mask) {
        int size = 0;
        for (int variable = 0; variable < VARIABLES; variable++) {
            size += (mask >> variable) & 1;
        }
        return size;
    }

    private static int hitsOf(int variable, int parents, long cases) {
        int hits = 0;
        for (int setting = 0; setting < MASKS; setting++) {
            if ((setting & ~parents) == 0) {
                hits += hitsInSetting(variable, parents, setting, cases);
            }
        }
        return hits;
    }

    private static int hitsInSetting(int variable, int parents, int setting, long cases) {
        int zeros = 0;
        int ones = 0;
        for (int j = 0; j < CASES; j++) {
            int values = (int) (cases >> (4 * j)) & 15;
            if ((values & parents) == setting) {
                if (contains(values, variable)) {
                    ones++;
                } else {
                    zeros++;
                }
            }
        }
        return ones > zeros ? ones : zeros;
    }

    // A structure is held as one number, four bits of parents to each variable,
    // so that a method can answer it without an array.
    private static int parentsIn(int structure, int variable) {
        return (structure >> (4 * variable)) & 15;
    }

    private int worthOf(int structure) {
        if (structure == NO_STRUCTURE) {
            return NONE;
        }
        int worth = 0;
        for (int variable = 0; variable < VARIABLES; variable++) {
            int parents = parentsIn(structure, variable);
            worth += scores[variable * MASKS + parents];
        }
        return worth;
    }

    // The first allowed structure of the greatest worth among those in which
    // the parents of v include all of needed and none of barred.
    private int firstBest(int v, int needed, int barred) {
        int first = NO_STRUCTURE;
        // The loops follow the order of structures, so the first of equals stays.
        for (int p0 = 0; p0 < MASKS; p0++) {
            if (!isAllowed(0, p0)) {
                continue;
            }
            for (int p1 = 0; p1 < MASKS; p1++) {
                if (!isAllowed(1, p1)) {
                    continue;
                }
                for (int p2 = 0; p2 < MASKS; p2++) {
                    if (!isAllowed(2, p2)) {
                        continue;
                    }
                    int head = p0 | (p1 << 4) | (p2 << 8);
                    first = betterOfTails(first, head, v, needed, barred);
                }
            }
        }
        return first;
    }

    // Tries every set of parents for variable 3 behind the head's three.
    private int betterOfTails(int first, int head, int v, int needed, int barred) {
        int kept = first;
        int keptWorth = worthOf(first);
        for (int p3 = 0; p3 < MASKS; p3++) {
            int structure = head | (p3 << 12);
            int parents = parentsIn(structure, v);
            boolean fits = (parents & needed) == needed && (parents & barred) == 0;
            if (fits && isAllowed(3, p3) && hasNoCircle(structure)) {
                int worth = worthOf(structure);
                // NONE lies below every worth, so any structure beats no structure.
                if (worth > keptWorth) {
                    kept = structure;
                    keptWorth = worth;
                }
            }
        }
        return kept;
    }

    private boolean isAllowed(int variable, int parents) {
        if (!isMaskOfOthers(variable, parents) || sizeOf(parents) > maxParents) {
            return false;
        }
        for (int u = 0; u < VARIABLES; u++) {
            int kind = edgeKinds[u * VARIABLES + variable];
            boolean has = contains(parents, u);
            if ((has && kind == FORBIDDEN) || (!has && kind == REQUIRED)) {
                return false;
            }
        }
        return true;
    }

    // Without a circle, each round places at least one more variable whose
    // parents are all placed; with one, its variables are never placed.
    private static boolean hasNoCircle(int structure) {
        int placed = 0;
        for (int round = 0; round < VARIABLES; round++) {
            for (int variable = 0; variable < VARIABLES; variable++) {
                int parents = parentsIn(structure, variable);
                if ((parents & ~placed) == 0) {
                    placed |= 1 << variable;
                }
            }
        }
        return placed == MASKS - 1;
    }

    // The greatest worth of an allowed structure that keeps to the order
    // a, b, c and then the one left. Parents from before a variable never
    // close a circle, so each variable can be chosen for by itself.
    private int worthInOrder(int a, int b, int c) {
        int beforeB = 1 << a;
        int beforeC = beforeB | (1 << b);
        int beforeLast = beforeC | (1 << c);
        int scoreA = bestScoreFrom(a, 0);
        int scoreB = bestScoreFrom(b, beforeB);
        int scoreC = bestScoreFrom(c, beforeC);
        int scoreLast = bestScoreFrom(6 - a - b - c, beforeLast);
        if (scoreA == NONE || scoreB == NONE || scoreC == NONE || scoreLast == NONE) {
            return NONE;
        }
        return scoreA + scoreB + scoreC + scoreLast;
    }

    private int bestScoreFrom(int variable, int before) {
        int greatest = NONE;
        for (int parents = 0; parents < MASKS; parents++) {
            if ((parents & ~before) == 0 && isAllowed(variable, parents)) {
                int score = scores[variable * MASKS + parents];
                if (score > greatest) {
                    greatest = score;
                }
            }
        }
        return greatest;
    }
}
