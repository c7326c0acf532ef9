/** Each promise of the document by hand-worked examples, its edges and wrong inputs. */
public final class PromiseTest {
    private static final int BAD_VARIABLE = -1;
    private static final int BAD_PARENTS = -2;
    private static final int BAD_SCORE = -3;
    private static final int BAD_LIMIT = -4;
    private static final int NONE = -100000;
    // 32 and 35 would pass for variables 0 and 3 if only a shift looked at them.
    private static final int[] NO_VARIABLES = {-1, 4, 5, 32, 35, -32, Integer.MIN_VALUE, Integer.MAX_VALUE};

    public static void main(String[] args) {
        newObject();
        scoreSets();
        scoreRefuses();
        limitSets();
        limitRefuses();
        edgeAnswersTheOld();
        edgeTakesTwoBits();
        edgeRefuses();
        edgeRules();
        learnCounts();
        learnLooksAtEveryCase();
        learnReplacesScoresAlone();
        bestLooksAtAll();
        noneAllowed();
        parentsOfTheFirst();
        circlesAreLeftOut();
        bestWithAndWithout();
        pairsAreTestedFirst();
        edgesOfTheFirst();
        ordersOfAnyBest();
        scoreOfRefuses();
        questionsChangeNothing();
        objectsAreApart();
        Check.end();
    }

    private static boolean isOthers(int variable, int parents) {
        return (parents >> variable & 1) == 0;
    }

    private static void allScores(StructureLearner x, int score) {
        for (int v = 0; v < 4; v++) {
            for (int p = 0; p < 16; p++) {
                if (isOthers(v, p)) {
                    Check.due("score(" + v + ", " + p + ", " + score + ")", x.score(v, p, score), 0);
                }
            }
        }
    }

    private static void dueParents(String what, StructureLearner x, int p0, int p1, int p2, int p3) {
        Check.due(what + ", parents(0)", x.parents(0), p0);
        Check.due(what + ", parents(1)", x.parents(1), p1);
        Check.due(what + ", parents(2)", x.parents(2), p2);
        Check.due(what + ", parents(3)", x.parents(3), p3);
    }

    private static void dueNone(String what, StructureLearner x) {
        Check.due(what + ", best", x.best(), NONE);
        dueParents(what, x, NONE, NONE, NONE, NONE);
        Check.due(what + ", edges", x.edges(), NONE);
        Check.due(what + ", orders", x.orders(), 0);
        for (int u = 0; u < 4; u++) {
            for (int v = 0; v < 4; v++) {
                int due = u == v ? BAD_VARIABLE : NONE;
                Check.due(what + ", bestWith(" + u + ", " + v + ")", x.bestWith(u, v), due);
                Check.due(what + ", bestWithout(" + u + ", " + v + ")", x.bestWithout(u, v), due);
            }
        }
    }

    private static void newObject() {
        StructureLearner x = new StructureLearner();
        for (int v = 0; v < 4; v++) {
            for (int p = 0; p < 16; p++) {
                Check.due("new: scoreOf(" + v + ", " + p + ")", x.scoreOf(v, p), 0);
            }
        }
        Check.due("new: best", x.best(), 0);
        dueParents("new", x, 0, 0, 0, 0);
        Check.due("new: edges", x.edges(), 0);
        Check.due("new: orders", x.orders(), 24);
        for (int u = 0; u < 4; u++) {
            for (int v = 0; v < 4; v++) {
                if (u != v) {
                    Check.due("new: bestWith", x.bestWith(u, v), 0);
                    Check.due("new: bestWithout", x.bestWithout(u, v), 0);
                    Check.due("new: edge", x.edge(u, v, 0), 0);
                }
            }
        }
        Check.due("new: limit", x.limit(3), 3);
    }

    private static void scoreSets() {
        StructureLearner x = new StructureLearner();
        for (int v = 0; v < 4; v++) {
            for (int p = 0; p < 16; p++) {
                if (isOthers(v, p)) {
                    Check.due("score: an ordinary one", x.score(v, p, 100 * v + p - 200), 0);
                }
            }
        }
        for (int v = 0; v < 4; v++) {
            for (int p = 0; p < 16; p++) {
                int due = isOthers(v, p) ? 100 * v + p - 200 : 0;
                Check.due("score: scoreOf(" + v + ", " + p + ")", x.scoreOf(v, p), due);
            }
        }
        Check.due("score: the greatest", x.score(2, 11, 1000), 0);
        Check.due("score: the greatest is kept", x.scoreOf(2, 11), 1000);
        Check.due("score: the least", x.score(2, 11, -1000), 0);
        Check.due("score: the least is kept", x.scoreOf(2, 11), -1000);
        Check.due("score: zero", x.score(2, 11, 0), 0);
        Check.due("score: zero is kept", x.scoreOf(2, 11), 0);
    }

    private static void scoreRefuses() {
        StructureLearner x = new StructureLearner();
        allScores(x, 7);
        for (int v : NO_VARIABLES) {
            Check.due("score: variable " + v, x.score(v, 0, 9), BAD_VARIABLE);
            Check.due("score: variable before parents", x.score(v, 16, 9), BAD_VARIABLE);
            Check.due("score: variable before score", x.score(v, 0, 1001), BAD_VARIABLE);
            Check.due("score: variable before both", x.score(v, -1, -1001), BAD_VARIABLE);
        }
        int[] noMasks = {-1, -16, 16, 17, 32, Integer.MIN_VALUE, Integer.MAX_VALUE};
        int[] noScores = {1001, -1001, Integer.MIN_VALUE, Integer.MAX_VALUE};
        for (int v = 0; v < 4; v++) {
            for (int p : noMasks) {
                Check.due("score: parents " + p, x.score(v, p, 9), BAD_PARENTS);
                Check.due("score: parents before score", x.score(v, p, 1001), BAD_PARENTS);
            }
            for (int p = 0; p < 16; p++) {
                for (int s : noScores) {
                    int due = isOthers(v, p) ? BAD_SCORE : BAD_PARENTS;
                    Check.due("score(" + v + ", " + p + ", " + s + ")", x.score(v, p, s), due);
                }
            }
            Check.due("score: its own bit", x.score(v, 1 << v, 9), BAD_PARENTS);
            Check.due("score: all four", x.score(v, 15, 9), BAD_PARENTS);
        }
        for (int v = 0; v < 4; v++) {
            for (int p = 0; p < 16; p++) {
                Check.due("score: refused, nothing changes", x.scoreOf(v, p), isOthers(v, p) ? 7 : 0);
            }
        }
        Check.due("score: refused, best", x.best(), 28);
    }

    private static void limitSets() {
        StructureLearner x = new StructureLearner();
        x.score(3, 1, 10);
        x.score(3, 3, 20);
        x.score(3, 7, 30);
        Check.due("limit(2)", x.limit(2), 3);
        Check.due("limit 2: best", x.best(), 20);
        Check.due("limit(1)", x.limit(1), 2);
        Check.due("limit 1: best", x.best(), 10);
        Check.due("limit(0)", x.limit(0), 1);
        Check.due("limit 0: best", x.best(), 0);
        Check.due("limit(3)", x.limit(3), 0);
        Check.due("limit 3: best", x.best(), 30);
        Check.due("limit(3) again", x.limit(3), 3);
        x.score(0, 0, 1);
        x.score(1, 1, 5);
        x.score(2, 1, 5);
        x.limit(1);
        Check.due("the limit is for each variable by itself", x.best(), 21);
        Check.due("limit 1: edges", x.edges(), 3);
    }

    private static void limitRefuses() {
        StructureLearner x = new StructureLearner();
        x.limit(2);
        int[] noLimits = {-1, 4, 15, Integer.MIN_VALUE, Integer.MAX_VALUE};
        for (int limit : noLimits) {
            Check.due("limit(" + limit + ")", x.limit(limit), BAD_LIMIT);
        }
        Check.due("limit: refused, nothing changes", x.limit(1), 2);
    }

    private static void edgeAnswersTheOld() {
        for (int u = 0; u < 4; u++) {
            for (int v = 0; v < 4; v++) {
                if (u == v) {
                    continue;
                }
                StructureLearner x = new StructureLearner();
                Check.due("edge: first", x.edge(u, v, 1), 0);
                Check.due("edge: the other way is apart", x.edge(v, u, 0), 0);
                Check.due("edge: was forbidden", x.edge(u, v, 2), 1);
                Check.due("edge: was required", x.edge(u, v, 2), 2);
                Check.due("edge: still required", x.edge(u, v, 0), 2);
                Check.due("edge: was free", x.edge(u, v, 0), 0);
            }
        }
    }

    private static void edgeTakesTwoBits() {
        int[] hows = {3, 4, 5, 6, 7, -1, -2, -3, -4, Integer.MIN_VALUE, Integer.MAX_VALUE, 258};
        int[] kinds = {0, 0, 1, 2, 0, 0, 2, 1, 0, 0, 0, 2};
        for (int i = 0; i < hows.length; i++) {
            for (int before = 0; before < 3; before++) {
                StructureLearner x = new StructureLearner();
                x.edge(1, 2, before);
                Check.due("edge: how " + hows[i] + " after " + before, x.edge(1, 2, hows[i]), before);
                Check.due("edge: bestWith at how " + hows[i], x.bestWith(1, 2), kinds[i] == 1 ? NONE : 0);
                Check.due("edge: bestWithout at how " + hows[i], x.bestWithout(1, 2), kinds[i] == 2 ? NONE : 0);
                Check.due("edge: how " + hows[i] + " counts as", x.edge(1, 2, 0), kinds[i]);
            }
        }
    }

    private static void edgeRefuses() {
        StructureLearner x = new StructureLearner();
        for (int w : NO_VARIABLES) {
            for (int how = 0; how < 4; how++) {
                Check.due("edge(" + w + ", 1, " + how + ")", x.edge(w, 1, how), BAD_VARIABLE);
                Check.due("edge(1, " + w + ", " + how + ")", x.edge(1, w, how), BAD_VARIABLE);
                Check.due("edge(" + w + ", " + w + ", " + how + ")", x.edge(w, w, how), BAD_VARIABLE);
            }
        }
        for (int v = 0; v < 4; v++) {
            for (int how = 0; how < 4; how++) {
                Check.due("edge(" + v + ", " + v + ", " + how + ")", x.edge(v, v, how), BAD_VARIABLE);
            }
        }
        Check.due("edge: refused, best", x.best(), 0);
        Check.due("edge: refused, orders", x.orders(), 24);
        for (int u = 0; u < 4; u++) {
            for (int v = 0; v < 4; v++) {
                if (u != v) {
                    Check.due("edge: refused, nothing changes", x.edge(u, v, 0), 0);
                }
            }
        }
    }

    private static void edgeRules() {
        StructureLearner x = new StructureLearner();
        x.score(2, 1, 50);
        x.score(2, 3, 40);
        x.score(2, 8, 30);
        Check.due("edge: free, best", x.best(), 50);
        x.edge(0, 2, 1);
        Check.due("edge: forbidden, best", x.best(), 30);
        dueParents("edge: forbidden", x, 0, 0, 8, 0);
        x.edge(0, 2, 2);
        x.edge(1, 2, 2);
        Check.due("edge: two required, best", x.best(), 40);
        dueParents("edge: two required", x, 0, 0, 3, 0);
        Check.due("edge: two required, edges", x.edges(), 2);
        Check.due("edge: two required, orders", x.orders(), 8);
        x.edge(3, 2, 2);
        Check.due("edge: three required, best", x.best(), 0);
        dueParents("edge: three required", x, 0, 0, 11, 0);
        x.limit(2);
        dueNone("edge: three required, limit 2", x);
    }

    private static void dueLearnt(String what, StructureLearner x, int none, int one, int two, int three) {
        int[] dues = {none, one, two, three};
        for (int v = 0; v < 4; v++) {
            for (int p = 0; p < 16; p++) {
                int due = isOthers(v, p) ? dues[Integer.bitCount(p)] : 0;
                Check.due(what + ", scoreOf(" + v + ", " + p + ")", x.scoreOf(v, p), due);
            }
        }
    }

    private static void learnCounts() {
        StructureLearner x = new StructureLearner();
        Check.due("learn(0)", x.learn(0L), 0);
        dueLearnt("learn: all the same", x, 13, 10, 4, -8);
        Check.due("learn(-1)", x.learn(-1L), 0);
        dueLearnt("learn: all fifteen", x, 13, 10, 4, -8);
        Check.due("learn: each value once", x.learn(0xFEDCBA9876543210L), 0);
        dueLearnt("learn: each value once", x, 5, 2, -4, -16);
        // The eight values with an even number of ones, each twice: only three tell the fourth.
        Check.due("learn: even", x.learn(0xFCA96530FCA96530L), 0);
        dueLearnt("learn: even", x, 5, 2, -4, -8);
        Check.due("learn: all alike", x.learn(0xF0F0F0F0F0F0F0F0L), 0);
        dueLearnt("learn: all alike", x, 5, 10, 4, -8);
        Check.due("learn: all alike, best", x.best(), 35);
        dueParents("learn: all alike", x, 0, 1, 1, 1);
        Check.due("learn: all alike, edges", x.edges(), 3);
        Check.due("learn: all alike, orders", x.orders(), 24);
    }

    private static void learnLooksAtEveryCase() {
        for (int j = 0; j < 16; j++) {
            StructureLearner x = new StructureLearner();
            // One case with variables 0 and 2 set, fifteen of nothing.
            x.learn(5L << (4 * j));
            String what = "learn: case " + j;
            Check.due(what, x.scoreOf(0, 0), 12);
            Check.due(what, x.scoreOf(1, 0), 13);
            Check.due(what, x.scoreOf(2, 0), 12);
            Check.due(what, x.scoreOf(3, 0), 13);
            Check.due(what, x.scoreOf(0, 4), 10);
            Check.due(what, x.scoreOf(0, 2), 9);
            Check.due(what, x.scoreOf(0, 8), 9);
            Check.due(what, x.scoreOf(2, 1), 10);
            Check.due(what, x.scoreOf(2, 10), 3);
            Check.due(what, x.scoreOf(2, 11), -8);
            Check.due(what, x.scoreOf(1, 13), -8);
        }
    }

    private static void learnReplacesScoresAlone() {
        StructureLearner x = new StructureLearner();
        allScores(x, -777);
        x.limit(1);
        x.edge(0, 1, 1);
        x.edge(2, 3, 2);
        x.learn(0L);
        dueLearnt("learn: all replaced", x, 13, 10, 4, -8);
        Check.due("learn: keeps the required edge", x.best(), 49);
        Check.due("learn: keeps the forbidden edge", x.bestWith(0, 1), NONE);
        Check.due("learn: keeps the limit", x.limit(3), 1);
        Check.due("learn: edge", x.edge(0, 1, 0), 1);
        Check.due("learn: edge", x.edge(2, 3, 0), 2);
        x.score(0, 0, 500);
        Check.due("score after learn", x.scoreOf(0, 0), 500);
        Check.due("score after learn, another", x.scoreOf(0, 2), 10);
    }

    private static void bestLooksAtAll() {
        StructureLearner x = new StructureLearner();
        for (int v = 0; v < 4; v++) {
            x.score(v, 0, 1000);
        }
        Check.due("best: the greatest there can be", x.best(), 4000);
        allScores(x, -1000);
        Check.due("best: the least there can be", x.best(), -4000);
        dueParents("best: the least there can be", x, 0, 0, 0, 0);
        Check.due("best: the least, edges", x.edges(), 0);
        Check.due("best: the least, orders", x.orders(), 24);
        x.score(3, 7, -999);
        Check.due("best: one better", x.best(), -3999);
        dueParents("best: one better", x, 0, 0, 0, 7);
        allScores(x, 0);
        // A full structure that runs against the numbers: 3, then 1, then 2, then 0.
        x.score(3, 0, 1);
        x.score(1, 8, 10);
        x.score(2, 10, 100);
        x.score(0, 14, 1000);
        Check.due("best: a full structure", x.best(), 1111);
        dueParents("best: a full structure", x, 14, 8, 10, 0);
        Check.due("best: a full structure, edges", x.edges(), 6);
        Check.due("best: a full structure, orders", x.orders(), 1);
        allScores(x, 0);
        x.score(2, 8, 10);
        x.score(1, 12, 100);
        x.score(0, 14, 1000);
        Check.due("best: all against the numbers", x.best(), 1110);
        dueParents("best: all against the numbers", x, 14, 12, 8, 0);
        Check.due("best: all against the numbers, orders", x.orders(), 1);
    }

    private static void noneAllowed() {
        StructureLearner x = new StructureLearner();
        x.edge(0, 1, 2);
        x.edge(1, 0, 2);
        dueNone("none: a circle of two is required", x);
        x.edge(1, 0, 0);
        Check.due("none: free again, best", x.best(), 0);
        x.edge(1, 2, 2);
        x.edge(2, 0, 2);
        dueNone("none: a circle of three is required", x);
        x.edge(2, 0, 0);
        x.edge(2, 3, 2);
        Check.due("none: a chain of four is well, best", x.best(), 0);
        Check.due("none: a chain of four is well, orders", x.orders(), 1);
        x.edge(3, 0, 2);
        dueNone("none: a circle of four is required", x);
        StructureLearner y = new StructureLearner();
        y.limit(0);
        y.edge(3, 2, 2);
        dueNone("none: an edge is required at limit 0", y);
        y.limit(1);
        Check.due("none: limit 1 lets it be", y.best(), 0);
        y.edge(1, 2, 2);
        dueNone("none: two edges to one are required at limit 1", y);
        for (int v : NO_VARIABLES) {
            Check.due("parents(" + v + ") is tested before NONE", y.parents(v), BAD_VARIABLE);
        }
    }

    private static void parentsOfTheFirst() {
        StructureLearner x = new StructureLearner();
        x.score(0, 2, 9);
        x.score(3, 4, 9);
        x.score(3, 1, 9);
        dueParents("parents: the smaller mask", x, 2, 0, 0, 1);
        x.score(1, 1, 9);
        // Edges 1 to 0 and 0 to 1 can't both be; variable 0 is looked at first.
        dueParents("parents: variable 0 decides", x, 0, 1, 0, 1);
        x.score(0, 8, 9);
        // Worth 18 at the most without 8 for variable 0, but 3 from 2 and 0 from 3 and 1 from 0 give 27.
        Check.due("parents: a greater worth, best", x.best(), 27);
        dueParents("parents: a greater worth goes before the order", x, 8, 1, 0, 4);
        StructureLearner y = new StructureLearner();
        y.score(1, 4, 5);
        y.score(2, 2, 5);
        dueParents("parents: variable 1 before 2", y, 0, 0, 2, 0);
        StructureLearner z = new StructureLearner();
        z.score(2, 8, 5);
        z.score(3, 4, 5);
        dueParents("parents: variable 2 before 3", z, 0, 0, 0, 4);
        for (int v : NO_VARIABLES) {
            Check.due("parents(" + v + ")", z.parents(v), BAD_VARIABLE);
        }
    }

    private static void circlesAreLeftOut() {
        StructureLearner x = new StructureLearner();
        x.score(0, 2, 10);
        x.score(1, 4, 10);
        x.score(2, 8, 10);
        x.score(3, 1, 10);
        Check.due("a circle of four gives one up", x.best(), 30);
        dueParents("a circle of four gives one up", x, 0, 4, 8, 1);
        Check.due("a circle of four, orders", x.orders(), 4);
        x.score(2, 1, 15);
        Check.due("a circle of three gives one up", x.best(), 35);
        dueParents("a circle of three gives one up", x, 0, 4, 1, 1);
        Check.due("a circle of three, bestWith", x.bestWith(1, 0), 35);
        x.score(1, 1, 30);
        Check.due("a circle of two gives one up", x.best(), 55);
        Check.due("a circle of two, bestWith", x.bestWith(1, 0), 35);
    }

    private static void bestWithAndWithout() {
        StructureLearner x = new StructureLearner();
        x.score(1, 1, 40);
        x.score(0, 2, 30);
        x.score(0, 10, 25);
        x.score(3, 4, 7);
        Check.due("with what the best has", x.bestWith(0, 1), 47);
        Check.due("without what the best has", x.bestWithout(0, 1), 37);
        Check.due("with what the best lacks", x.bestWith(1, 0), 37);
        Check.due("without what the best lacks", x.bestWithout(1, 0), 47);
        Check.due("with another", x.bestWith(3, 0), 47);
        Check.due("with one that closes a circle", x.bestWith(3, 2), 40);
        Check.due("without 2 to 3", x.bestWithout(2, 3), 40);
        x.edge(0, 1, 1);
        Check.due("with a forbidden edge", x.bestWith(0, 1), NONE);
        Check.due("without a forbidden edge", x.bestWithout(0, 1), 37);
        x.edge(0, 1, 2);
        Check.due("with a required edge", x.bestWith(0, 1), 47);
        Check.due("without a required edge", x.bestWithout(0, 1), NONE);
        Check.due("with the other way of a required edge", x.bestWith(1, 0), NONE);
        Check.due("without the other way of a required edge", x.bestWithout(1, 0), 47);
        Check.due("with, the limit not yet in the way", x.bestWith(3, 1), 7);
        x.limit(1);
        Check.due("with, above the limit", x.bestWith(3, 1), NONE);
        Check.due("without, at the limit", x.bestWithout(3, 1), 47);
        x.edge(0, 1, 0);
        x.limit(0);
        Check.due("with, limit 0", x.bestWith(2, 3), NONE);
        Check.due("without, limit 0", x.bestWithout(2, 3), 0);
    }

    private static void pairsAreTestedFirst() {
        StructureLearner none = new StructureLearner();
        none.limit(0);
        none.edge(0, 1, 2);
        StructureLearner some = new StructureLearner();
        for (StructureLearner x : new StructureLearner[] {none, some}) {
            for (int w : NO_VARIABLES) {
                Check.due("bestWith(" + w + ", 0)", x.bestWith(w, 0), BAD_VARIABLE);
                Check.due("bestWith(0, " + w + ")", x.bestWith(0, w), BAD_VARIABLE);
                Check.due("bestWith(" + w + ", " + w + ")", x.bestWith(w, w), BAD_VARIABLE);
                Check.due("bestWithout(" + w + ", 3)", x.bestWithout(w, 3), BAD_VARIABLE);
                Check.due("bestWithout(3, " + w + ")", x.bestWithout(3, w), BAD_VARIABLE);
                Check.due("bestWithout(" + w + ", " + w + ")", x.bestWithout(w, w), BAD_VARIABLE);
            }
            for (int v = 0; v < 4; v++) {
                Check.due("bestWith of one and the same", x.bestWith(v, v), BAD_VARIABLE);
                Check.due("bestWithout of one and the same", x.bestWithout(v, v), BAD_VARIABLE);
            }
        }
    }

    private static void edgesOfTheFirst() {
        StructureLearner x = new StructureLearner();
        x.score(1, 13, 5);
        x.score(0, 2, 5);
        // Both can't be; the one without parents for 0 is first and has more edges.
        Check.due("edges: best", x.best(), 5);
        Check.due("edges: of the first, not the fewest", x.edges(), 3);
        Check.due("edges: orders of both", x.orders(), 18);
        x.score(0, 2, 6);
        Check.due("edges: of the greater worth", x.edges(), 1);
        Check.due("edges: orders of the greater worth", x.orders(), 12);
        StructureLearner y = new StructureLearner();
        y.score(0, 14, 5);
        y.score(1, 1, 5);
        Check.due("edges: of the first, not the most", y.edges(), 1);
        Check.due("edges: the other one's orders count too", y.orders(), 18);
    }

    private static void ordersOfAnyBest() {
        StructureLearner x = new StructureLearner();
        x.score(3, 1, 4);
        Check.due("orders: one edge", x.orders(), 12);
        x.score(3, 2, 4);
        // 3 after 0 or after 1: all but the orders with 3 before both.
        Check.due("orders: one of two edges", x.orders(), 16);
        x.score(3, 4, 4);
        Check.due("orders: one of three edges", x.orders(), 18);
        x.edge(2, 3, 1);
        Check.due("orders: a forbidden one does not count", x.orders(), 16);
        x.edge(1, 3, 2);
        Check.due("orders: a required one leaves the rest out", x.orders(), 12);
        x.score(3, 3, 5);
        Check.due("orders: two parents", x.orders(), 8);
        x.limit(1);
        Check.due("orders: the limit counts", x.orders(), 12);
        x.limit(0);
        Check.due("orders: none allowed", x.orders(), 0);
        StructureLearner y = new StructureLearner();
        y.edge(0, 1, 2);
        y.edge(0, 2, 2);
        y.edge(0, 3, 2);
        Check.due("orders: 0 is first", y.orders(), 6);
        y.edge(3, 2, 2);
        Check.due("orders: and 3 before 2", y.orders(), 3);
    }

    private static void scoreOfRefuses() {
        StructureLearner x = new StructureLearner();
        allScores(x, 321);
        int[] noMasks = {-1, -16, 16, 17, 31, 32, Integer.MIN_VALUE, Integer.MAX_VALUE};
        for (int v = 0; v < 4; v++) {
            for (int p : noMasks) {
                Check.due("scoreOf(" + v + ", " + p + ")", x.scoreOf(v, p), 0);
            }
            for (int p = 0; p < 16; p++) {
                Check.due("scoreOf(" + v + ", " + p + ")", x.scoreOf(v, p), isOthers(v, p) ? 321 : 0);
            }
        }
        for (int v : NO_VARIABLES) {
            // A new object each time, since what calls behind the 512th answer is free.
            StructureLearner y = new StructureLearner();
            allScores(y, 321);
            for (int p = -16; p < 48; p++) {
                Check.due("scoreOf(" + v + ", " + p + ")", y.scoreOf(v, p), 0);
            }
        }
    }

    private static void questionsChangeNothing() {
        StructureLearner x = new StructureLearner();
        x.learn(0xF0F0F0F0F0F0F0F0L);
        x.limit(2);
        x.edge(3, 0, 2);
        x.edge(1, 2, 1);
        for (int round = 0; round < 20; round++) {
            Check.due("again: best", x.best(), 35);
            Check.due("again: bestWith", x.bestWith(1, 2), NONE);
            Check.due("again: bestWithout", x.bestWithout(3, 0), NONE);
            Check.due("again: bestWith another", x.bestWith(2, 1), 35);
            // 3 before 0 leaves twelve orders; in 1, 2, 3, 0 variable 2 has none to follow.
            Check.due("again: orders", x.orders(), 11);
            Check.due("again: edges", x.edges(), 3);
            dueParents("again", x, 8, 0, 1, 2);
            Check.due("again: scoreOf", x.scoreOf(0, 8), 10);
            Check.due("again: a wrong question", x.parents(4), BAD_VARIABLE);
        }
        Check.due("again: limit", x.limit(2), 2);
        Check.due("again: required", x.edge(3, 0, 2), 2);
        Check.due("again: forbidden", x.edge(1, 2, 1), 1);
    }

    private static void objectsAreApart() {
        StructureLearner x = new StructureLearner();
        StructureLearner y = new StructureLearner();
        x.score(0, 0, 99);
        x.limit(1);
        x.edge(0, 1, 2);
        Check.due("apart: scoreOf", y.scoreOf(0, 0), 0);
        Check.due("apart: best", y.best(), 0);
        Check.due("apart: edge", y.edge(0, 1, 0), 0);
        Check.due("apart: limit", y.limit(3), 3);
        Check.due("apart: the first keeps its own", x.best(), 99);
    }
}
