import java.util.ArrayList;
import java.util.Arrays;
import java.util.List;

/**
 * Each sentence of the document that names a boundary case, in a test of its own.
 * A wrong answer is printed behind the sentence that it breaks. No object is used
 * for more than 512 calls, since what later calls answer is free.
 */
public final class BoundaryTest {
    private static final int BAD_VARIABLE = -1;
    private static final int BAD_PARENTS = -2;
    private static final int BAD_SCORE = -3;
    private static final int BAD_LIMIT = -4;
    private static final int NONE = -100000;
    private static final int MIN = Integer.MIN_VALUE;
    private static final int MAX = Integer.MAX_VALUE;

    // 32 to 35 and -32 are variables to a shift, 16 and 256 to a mask of low bits.
    private static final int[] NO_VARIABLES = {-1, 4, -4, 16, 32, 33, 35, -32, 256, MIN, MIN + 1, MAX, MAX - 2};
    private static final int[] NO_MASKS = {-1, 16, -2, -16, 17, 32, 64, 1 << 16, MIN, MAX};
    private static final int[] NO_SCORES = {1001, -1001, 1002, -1002, 65536, MIN, MAX};
    private static final int[] NO_LIMITS = {-1, 4, -4, 8, 256, MIN, MAX};

    private static String sentence = "";

    public static void main(String[] args) {
        terms();
        newObject();
        score();
        limit();
        edge();
        learn();
        best();
        parents();
        bestWith();
        bestWithout();
        edges();
        orders();
        scoreOf();
        wholeObject();
        Check.end();
    }

    // Names the sentence that the checks behind it are for.
    private static void says(String text) {
        sentence = text;
    }

    private static void due(String call, int got, int want) {
        Check.due("[" + sentence + "] " + call, got, want);
    }

    private static boolean isOthers(int variable, int parents) {
        return (parents >> variable & 1) == 0;
    }

    private static StructureLearner fresh() {
        return new StructureLearner();
    }

    // A state in which nothing is as it was at the start.
    private static StructureLearner used() {
        StructureLearner x = fresh();
        x.learn(0x0123456789ABCDEFL);
        x.score(0, 0, -1000);
        x.score(1, 8, 1000);
        x.score(2, 11, 77);
        x.limit(2);
        x.edge(3, 1, 2);
        x.edge(0, 2, 2);
        x.edge(1, 0, 1);
        return x;
    }

    private static StructureLearner noneAllowed() {
        StructureLearner x = used();
        x.edge(1, 3, 2);
        return x;
    }

    // One object each time it is asked, so that every test begins anew.
    private static StructureLearner inState(int state) {
        return state == 0 ? fresh() : state == 1 ? used() : noneAllowed();
    }

    // All that can be told of an object, in 89 calls. What it holds is read before any
    // question is asked, so that a question's harm shows in the next reading.
    private static int[] all(StructureLearner x) {
        List<Integer> seen = new ArrayList<>();
        addState(x, seen);
        addAnswers(x, seen);
        return seen.stream().mapToInt(Integer::intValue).toArray();
    }

    // What has to be set to be read is set back.
    private static void addState(StructureLearner x, List<Integer> seen) {
        int limit = x.limit(3);
        x.limit(limit);
        seen.add(limit);
        for (int v = 0; v < 4; v++) {
            for (int p = 0; p < 16; p++) {
                if (isOthers(v, p)) {
                    seen.add(x.scoreOf(v, p));
                }
            }
            for (int u = 0; u < 4; u++) {
                if (u != v) {
                    int kind = x.edge(u, v, 0);
                    x.edge(u, v, kind);
                    seen.add(kind);
                }
            }
        }
    }

    private static void addAnswers(StructureLearner x, List<Integer> seen) {
        seen.add(x.best());
        seen.add(x.edges());
        seen.add(x.orders());
        for (int v = 0; v < 4; v++) {
            seen.add(x.parents(v));
            for (int u = 0; u < 4; u++) {
                if (u != v) {
                    seen.add(x.bestWith(u, v));
                    seen.add(x.bestWithout(u, v));
                }
            }
        }
    }

    private static void dueSame(String what, StructureLearner x, int[] before) {
        due(what + ", place of the first change", Arrays.mismatch(all(x), before), -1);
    }

    private static void dueParents(String what, StructureLearner x, int p0, int p1, int p2, int p3) {
        due(what + ", parents(0)", x.parents(0), p0);
        due(what + ", parents(1)", x.parents(1), p1);
        due(what + ", parents(2)", x.parents(2), p2);
        due(what + ", parents(3)", x.parents(3), p3);
    }

    private static void setAll(StructureLearner x, int score) {
        for (int v = 0; v < 4; v++) {
            for (int p = 0; p < 16; p++) {
                if (isOthers(v, p)) {
                    x.score(v, p, score);
                }
            }
        }
    }

    // Every circle of the four variables, each as the variables it goes through.
    private static List<int[]> circles() {
        List<int[]> found = new ArrayList<>();
        for (int a = 0; a < 4; a++) {
            for (int b = a + 1; b < 4; b++) {
                found.add(new int[] {a, b});
                for (int c = a + 1; c < 4; c++) {
                    if (c == b) {
                        continue;
                    }
                    found.add(new int[] {a, b, c});
                    int d = 6 - a - b - c;
                    if (a == 0) {
                        found.add(new int[] {a, b, c, d});
                    }
                }
            }
        }
        return found;
    }

    // ---- Terms

    private static void terms() {
        fourVariables();
        neverItsOwnBit();
        eightSets();
        noCircle();
        noCircleIsTaken();
        atMostTheLimit();
        edgeFromTo();
        sumOfTheFour();
        variableZeroFirst();
        smallerOnesFirst();
        allowedNeedsAllThree();
        noneWhereNoneIsAllowed();
    }

    private static void fourVariables() {
        says("There are four VARIABLES (0 to 3)");
        StructureLearner x = fresh();
        for (int v = 0; v <= 3; v++) {
            due("score of " + v, x.score(v, 0, v + 1), 0);
            due("scoreOf " + v, x.scoreOf(v, 0), v + 1);
            due("parents of " + v, x.parents(v), 0);
        }
        due("score of 4", x.score(4, 0, 9), BAD_VARIABLE);
        due("score of -1", x.score(-1, 0, 9), BAD_VARIABLE);
        due("best", x.best(), 10);
    }

    private static void neverItsOwnBit() {
        says("as a mask (bit u for variable u; never its own bit)");
        for (int v = 0; v < 4; v++) {
            StructureLearner x = fresh();
            for (int p = 0; p < 16; p++) {
                due("score(" + v + ", " + p + ", 1)", x.score(v, p, 1), isOthers(v, p) ? 0 : BAD_PARENTS);
            }
        }
    }

    private static void eightSets() {
        says("for each variable and each of the eight sets there is a SCORE");
        StructureLearner x = fresh();
        int next = 1;
        for (int v = 0; v < 4; v++) {
            for (int p = 0; p < 16; p++) {
                if (isOthers(v, p)) {
                    x.score(v, p, next++);
                }
            }
        }
        due("scores", next - 1, 32);
        next = 1;
        for (int v = 0; v < 4; v++) {
            for (int p = 0; p < 16; p++) {
                if (isOthers(v, p)) {
                    due("scoreOf(" + v + ", " + p + ")", x.scoreOf(v, p), next++);
                }
            }
        }
    }

    private static void noCircle() {
        says("no variable can be come to from itself");
        List<int[]> circles = circles();
        due("circles of two, three and four", circles.size(), 6 + 8 + 6);
        for (int[] circle : circles) {
            String what = "required circle " + Arrays.toString(circle);
            StructureLearner x = fresh();
            int last = circle.length - 1;
            for (int i = 0; i < last; i++) {
                x.edge(circle[i], circle[i + 1], 2);
            }
            due(what + " but for an edge, best", x.best(), 0);
            due(what + " but for an edge, edges", x.edges(), last);
            due(what + ", bestWith the edge that closes it", x.bestWith(circle[last], circle[0]), NONE);
            x.edge(circle[last], circle[0], 2);
            due(what + ", best", x.best(), NONE);
            due(what + ", orders", x.orders(), 0);
        }
    }

    private static void noCircleIsTaken() {
        says("no variable can be come to from itself: not for any score");
        for (int[] circle : circles()) {
            String what = "circle worth much " + Arrays.toString(circle);
            StructureLearner x = fresh();
            for (int i = 0; i < circle.length; i++) {
                x.score(circle[(i + 1) % circle.length], 1 << circle[i], 1000);
            }
            due(what + ", best", x.best(), 1000 * (circle.length - 1));
            due(what + ", edges", x.edges(), circle.length - 1);
        }
    }

    private static void atMostTheLimit() {
        says("At most as many parents as the LIMIT (0 to 3) are allowed for each variable");
        for (int limit = 0; limit <= 3; limit++) {
            for (int v = 0; v < 4; v++) {
                for (int p = 0; p < 16; p++) {
                    if (isOthers(v, p)) {
                        oneWorthySet(limit, v, p);
                    }
                }
            }
        }
    }

    private static void oneWorthySet(int limit, int v, int p) {
        StructureLearner x = fresh();
        x.limit(limit);
        x.score(v, p, 10);
        boolean within = p == 0 || Integer.bitCount(p) <= limit;
        String what = "limit " + limit + ", score(" + v + ", " + p + ", 10)";
        due(what + ", best", x.best(), within ? 10 : 0);
        due(what + ", parents(" + v + ")", x.parents(v), within ? p : 0);
        due(what + ", edges", x.edges(), within ? Integer.bitCount(p) : 0);
    }

    private static void edgeFromTo() {
        says("An edge from u to v means that u is a parent of v");
        for (int u = 0; u < 4; u++) {
            for (int v = 0; v < 4; v++) {
                if (u == v) {
                    continue;
                }
                String what = u + " to " + v;
                StructureLearner x = fresh();
                x.edge(u, v, 2);
                due(what + " required, parents of the one", x.parents(v), 1 << u);
                due(what + " required, parents of the other", x.parents(u), 0);
                StructureLearner y = fresh();
                y.score(v, 1 << u, 5);
                due(what + " worth 5, bestWith", y.bestWith(u, v), 5);
                due(what + " worth 5, bestWith turned", y.bestWith(v, u), 0);
                due(what + " worth 5, bestWithout", y.bestWithout(u, v), 0);
                due(what + " worth 5, bestWithout turned", y.bestWithout(v, u), 5);
                y.edge(v, u, 1);
                due(what + " worth 5, turned forbidden", y.best(), 5);
                y.edge(u, v, 1);
                due(what + " worth 5, forbidden", y.best(), 0);
            }
        }
    }

    private static void sumOfTheFour() {
        says("THE WORTH of a structure is the sum of the four scores");
        StructureLearner x = fresh();
        x.limit(0);
        x.score(0, 0, 1);
        x.score(1, 0, 20);
        x.score(2, 0, 300);
        x.score(3, 0, -900);
        due("best", x.best(), 1 + 20 + 300 - 900);
    }

    private static void variableZeroFirst() {
        says("STRUCTURES ARE ORDERED by the parents of variable 0, then of 1, 2 and 3");
        for (int a = 0; a < 4; a++) {
            for (int b = a + 1; b < 4; b++) {
                StructureLearner x = fresh();
                x.score(a, 1 << b, 5);
                x.score(b, 1 << a, 5);
                String what = "either way between " + a + " and " + b;
                due(what + ", best", x.best(), 5);
                due(what + ", parents(" + a + ")", x.parents(a), 0);
                due(what + ", parents(" + b + ")", x.parents(b), 1 << a);
            }
        }
        // Three of four edges can be had; of the four structures the one with nothing for 0 is first.
        StructureLearner x = fresh();
        x.score(0, 8, 5);
        x.score(1, 1, 5);
        x.score(2, 2, 5);
        x.score(3, 4, 5);
        dueParents("a circle of four", x, 0, 1, 2, 4);
        // The set for 1 is the larger number, but the one for 0 is looked at before it.
        StructureLearner y = fresh();
        y.score(0, 2, 5);
        y.score(1, 9, 5);
        dueParents("2 for 0, or 9 for 1", y, 0, 9, 0, 0);
    }

    private static void smallerOnesFirst() {
        says("smaller ones first");
        for (int v = 0; v < 4; v++) {
            for (int p = 0; p < 16; p++) {
                for (int q = p + 1; q < 16; q++) {
                    if (isOthers(v, p) && isOthers(v, q)) {
                        StructureLearner x = fresh();
                        x.score(v, q, 5);
                        x.score(v, p, 5);
                        due("of " + p + " and " + q + ", parents(" + v + ")", x.parents(v), p);
                        due("of " + p + " and " + q + ", edges", x.edges(), Integer.bitCount(p));
                    }
                }
            }
        }
    }

    private static void allowedNeedsAllThree() {
        says("ALLOWED if it keeps to the limit, has no forbidden edge and all required ones");
        StructureLearner x = fresh();
        x.score(3, 7, 70);
        x.score(3, 6, 60);
        x.score(3, 5, 50);
        x.score(3, 4, 40);
        x.score(3, 2, 20);
        x.score(3, 1, 10);
        due("all free", x.best(), 70);
        x.limit(2);
        due("limit 2", x.best(), 60);
        x.edge(1, 3, 1);
        due("limit 2, 1 to 3 forbidden", x.best(), 50);
        x.edge(2, 3, 1);
        due("limit 2, 1 and 2 to 3 forbidden", x.best(), 10);
        x.edge(1, 3, 2);
        due("limit 2, 1 to 3 required, 2 to 3 forbidden", x.best(), 20);
        x.edge(0, 3, 2);
        due("limit 2, 0 and 1 to 3 required", x.best(), 0);
        due("limit 2, 0 and 1 to 3 required, parents", x.parents(3), 3);
        x.edge(2, 3, 2);
        due("limit 2, all three required", x.best(), NONE);
        x.limit(3);
        due("limit 3, all three required", x.best(), 70);
    }

    private static void noneWhereNoneIsAllowed() {
        says("NONE = -100000: Answered where no structure is allowed");
        due("the constant", StructureLearner.NONE, NONE);
        StructureLearner x = noneAllowed();
        due("best", x.best(), NONE);
        dueParents("none allowed", x, NONE, NONE, NONE, NONE);
        due("edges", x.edges(), NONE);
        for (int u = 0; u < 4; u++) {
            for (int v = 0; v < 4; v++) {
                if (u != v) {
                    due("bestWith(" + u + ", " + v + ")", x.bestWith(u, v), NONE);
                    due("bestWithout(" + u + ", " + v + ")", x.bestWithout(u, v), NONE);
                }
            }
        }
        x.edge(1, 3, 0);
        due("best when some are allowed again", x.best(), used().best());
    }

    // ---- Promise 1

    private static void newObject() {
        says("All scores 0");
        StructureLearner x = fresh();
        for (int v = 0; v < 4; v++) {
            for (int p = 0; p < 16; p++) {
                due("scoreOf(" + v + ", " + p + ")", x.scoreOf(v, p), 0);
            }
        }
        says("the limit is 3");
        StructureLearner y = fresh();
        y.score(3, 7, 1);
        due("best with three parents", y.best(), 1);
        due("limit(0)", y.limit(0), 3);
        says("no edge is forbidden or required");
        for (int u = 0; u < 4; u++) {
            for (int v = 0; v < 4; v++) {
                if (u != v) {
                    StructureLearner z = fresh();
                    due("bestWith(" + u + ", " + v + ")", z.bestWith(u, v), 0);
                    due("bestWithout(" + u + ", " + v + ")", z.bestWithout(u, v), 0);
                    due("edge(" + u + ", " + v + ", 1)", z.edge(u, v, 1), 0);
                }
            }
        }
    }

    // ---- Promise 2, and the order of tests from promise 13

    private static void score() {
        scoreVariable();
        scoreParents();
        scoreRange();
        scoreRefusedChangesNothing();
        scoreElseZero();
        scoreTestsInOrder();
    }

    private static void scoreVariable() {
        says("score: variable not in 0 to 3: BAD_VARIABLE");
        for (int v : NO_VARIABLES) {
            StructureLearner x = fresh();
            for (int p = 0; p < 16; p++) {
                due("score(" + v + ", " + p + ", 5)", x.score(v, p, 5), BAD_VARIABLE);
            }
        }
        due("score(0, 0, 5)", fresh().score(0, 0, 5), 0);
        due("score(3, 0, 5)", fresh().score(3, 0, 5), 0);
    }

    private static void scoreParents() {
        says("score: parents not a mask of others (0 to 15 without the variable's own bit): BAD_PARENTS");
        for (int v = 0; v < 4; v++) {
            StructureLearner x = fresh();
            for (int p : NO_MASKS) {
                due("score(" + v + ", " + p + ", 5)", x.score(v, p, 5), BAD_PARENTS);
            }
            due("its own bit alone: score(" + v + ")", x.score(v, 1 << v, 5), BAD_PARENTS);
            due("all four bits: score(" + v + ")", x.score(v, 15, 5), BAD_PARENTS);
            due("no bit: score(" + v + ")", x.score(v, 0, 5), 0);
            due("all others: score(" + v + ")", x.score(v, 15 - (1 << v), 5), 0);
        }
    }

    private static void scoreRange() {
        says("score: score not in -1000 to 1000: BAD_SCORE");
        StructureLearner x = fresh();
        for (int s : NO_SCORES) {
            due("score(1, 4, " + s + ")", x.score(1, 4, s), BAD_SCORE);
        }
        int[] within = {-1000, 1000, -999, 999, -1, 0, 1};
        for (int s : within) {
            due("score(1, 4, " + s + ")", x.score(1, 4, s), 0);
            due("scoreOf after " + s, x.scoreOf(1, 4), s);
        }
    }

    private static void scoreRefusedChangesNothing() {
        says("score: nothing changes then");
        for (int state = 0; state < 3; state++) {
            StructureLearner x = inState(state);
            int[] before = all(x);
            for (int v : NO_VARIABLES) {
                x.score(v, 2, 5);
            }
            for (int p : NO_MASKS) {
                x.score(2, p, 5);
            }
            for (int v = 0; v < 4; v++) {
                x.score(v, 1 << v, 5);
                x.score(v, 15, 5);
            }
            for (int s : NO_SCORES) {
                x.score(2, 1, s);
                x.score(0, 0, s);
            }
            dueSame("state " + state, x, before);
        }
    }

    private static void scoreElseZero() {
        says("score: Sets a score. Else answers 0");
        StructureLearner x = used();
        for (int v = 0; v < 4; v++) {
            for (int p = 0; p < 16; p++) {
                if (isOthers(v, p)) {
                    due("score(" + v + ", " + p + ", 500)", x.score(v, p, 500), 0);
                    due("again", x.score(v, p, -500 + p), 0);
                    due("scoreOf(" + v + ", " + p + ")", x.scoreOf(v, p), -500 + p);
                }
            }
        }
        due("where none is allowed", noneAllowed().score(0, 2, 3), 0);
    }

    private static void scoreTestsInOrder() {
        says("In score the variable is tested first, then parents, then the score");
        StructureLearner x = fresh();
        for (int v : NO_VARIABLES) {
            due("variable and parents", x.score(v, 16, 5), BAD_VARIABLE);
            due("variable and score", x.score(v, 0, 1001), BAD_VARIABLE);
            due("all three", x.score(v, -1, -1001), BAD_VARIABLE);
        }
        for (int s : NO_SCORES) {
            due("parents too large, and score", x.score(0, 16, s), BAD_PARENTS);
            due("parents too small, and score", x.score(0, -1, s), BAD_PARENTS);
            due("own bit, and score", x.score(0, 1, s), BAD_PARENTS);
            due("score alone", x.score(0, 2, s), BAD_SCORE);
        }
    }

    // ---- Promise 3

    private static void limit() {
        says("limit: limit not in 0 to 3: BAD_LIMIT");
        for (int l : NO_LIMITS) {
            due("limit(" + l + ")", fresh().limit(l), BAD_LIMIT);
        }
        says("limit: nothing changes");
        for (int state = 0; state < 3; state++) {
            StructureLearner x = inState(state);
            int[] before = all(x);
            for (int l : NO_LIMITS) {
                x.limit(l);
            }
            dueSame("state " + state, x, before);
        }
        says("limit: Else answers the old one");
        for (int old = 0; old <= 3; old++) {
            for (int l = 0; l <= 3; l++) {
                StructureLearner x = fresh();
                due("limit(" + old + ") at first", x.limit(old), 3);
                x.limit(4);
                due("limit(" + l + ") after " + old, x.limit(l), old);
                due("limit(3) after " + l, x.limit(3), l);
            }
        }
        limitCanBeLessThanIsRequired();
    }

    private static void limitCanBeLessThanIsRequired() {
        says("limit: Sets the limit");
        StructureLearner x = fresh();
        x.edge(0, 3, 2);
        x.edge(1, 3, 2);
        due("below what is required", x.limit(1), 3);
        due("best then", x.best(), NONE);
        due("back to what is required", x.limit(2), 1);
        due("best then", x.best(), 0);
    }

    // ---- Promise 4

    private static void edge() {
        edgeHow();
        edgeVariables();
        edgeRefusedChangesNothing();
        edgeElseTheOld();
        edgesBothWays();
    }

    private static void edgeHow() {
        says("edge: free (0), forbidden (1) or required (2); how & 3 counts, 3 as 0");
        int[] hows = {0, 1, 2, 3, 4, 5, 6, 7, 8, -1, -2, -3, -4, -5, 1 << 16, MIN, MIN + 1, MIN + 2, MIN + 3, MAX, MAX - 1, MAX - 2};
        int[] kinds = {0, 1, 2, 0, 0, 1, 2, 0, 0, 0, 2, 1, 0, 0, 0, 0, 1, 2, 0, 0, 2, 1};
        for (int i = 0; i < hows.length; i++) {
            for (int old = 0; old < 3; old++) {
                StructureLearner x = fresh();
                x.edge(2, 0, old);
                String what = "edge(2, 0, " + hows[i] + ")";
                due(what, x.edge(2, 0, hows[i]), old);
                due(what + ", bestWith", x.bestWith(2, 0), kinds[i] == 1 ? NONE : 0);
                due(what + ", bestWithout", x.bestWithout(2, 0), kinds[i] == 2 ? NONE : 0);
                due(what + ", what it was", x.edge(2, 0, 0), kinds[i]);
            }
        }
    }

    private static void edgeVariables() {
        says("edge: u or v not in 0 to 3, or u == v: BAD_VARIABLE");
        int[] hows = {0, 1, 2, 3, 4, -1};
        for (int how : hows) {
            for (int w : NO_VARIABLES) {
                StructureLearner x = fresh();
                for (int v = 0; v < 4; v++) {
                    due("edge(" + w + ", " + v + ", " + how + ")", x.edge(w, v, how), BAD_VARIABLE);
                    due("edge(" + v + ", " + w + ", " + how + ")", x.edge(v, w, how), BAD_VARIABLE);
                }
                due("edge(" + w + ", " + w + ", " + how + ")", x.edge(w, w, how), BAD_VARIABLE);
            }
            for (int v = 0; v < 4; v++) {
                due("edge(" + v + ", " + v + ", " + how + ")", fresh().edge(v, v, how), BAD_VARIABLE);
            }
        }
        // One too large and one too small, whose place u * 4 + v would lie inside.
        due("edge(1, -1, 1)", fresh().edge(1, -1, 1), BAD_VARIABLE);
        due("edge(0, 4, 1)", fresh().edge(0, 4, 1), BAD_VARIABLE);
        due("edge(-1, 7, 1)", fresh().edge(-1, 7, 1), BAD_VARIABLE);
        due("edge(4, -4, 1)", fresh().edge(4, -4, 1), BAD_VARIABLE);
    }

    private static void edgeRefusedChangesNothing() {
        says("edge: nothing changes");
        for (int state = 0; state < 3; state++) {
            for (int how = 0; how < 4; how++) {
                StructureLearner x = inState(state);
                int[] before = all(x);
                for (int w : NO_VARIABLES) {
                    x.edge(w, 1, how);
                    x.edge(1, w, how);
                    x.edge(w, w, how);
                }
                for (int v = 0; v < 4; v++) {
                    x.edge(v, v, how);
                }
                dueSame("state " + state + ", how " + how, x, before);
            }
        }
    }

    private static void edgeElseTheOld() {
        says("edge: Else answers what it was");
        for (int u = 0; u < 4; u++) {
            for (int v = 0; v < 4; v++) {
                if (u == v) {
                    continue;
                }
                StructureLearner x = fresh();
                String what = "edge(" + u + ", " + v + ")";
                due(what + " new", x.edge(u, v, 2), 0);
                due(what + " turned", x.edge(v, u, 1), 0);
                due(what + " was required", x.edge(u, v, 1), 2);
                due(what + " was forbidden", x.edge(u, v, 3), 1);
                due(what + " 3 was as 0", x.edge(u, v, 0), 0);
                due(what + " turned, was forbidden", x.edge(v, u, 0), 1);
            }
        }
    }

    private static void edgesBothWays() {
        says("edge: the edge from u to v, and not the one from v to u");
        StructureLearner x = fresh();
        x.edge(0, 1, 1);
        due("forbidden one way, the other way", x.bestWith(1, 0), 0);
        x.edge(1, 0, 1);
        due("forbidden both ways, best", x.best(), 0);
        due("forbidden both ways, orders", x.orders(), 24);
        x.edge(0, 1, 2);
        due("required one way, forbidden the other, best", x.best(), 0);
        due("required one way, forbidden the other, orders", x.orders(), 12);
        x.edge(1, 0, 2);
        due("required both ways", x.best(), NONE);
    }

    // ---- Promise 5

    private static void learn() {
        learnScores();
        learnEverySet();
        learnFirstAndLastCase();
        learnTies();
        learnEmptySettings();
        learnKeepsTheRest();
        learnForgets();
    }

    private static void dueBySize(String what, StructureLearner x, int... scores) {
        for (int v = 0; v < 4; v++) {
            for (int p = 0; p < 16; p++) {
                if (isOthers(v, p)) {
                    due(what + ", scoreOf(" + v + ", " + p + ")", x.scoreOf(v, p), scores[Integer.bitCount(p)]);
                }
            }
        }
    }

    private static void learnScores() {
        says("learn: the score becomes hits - 3 * 2^k, k being how many parents there are");
        // Sixteen cases alike: hits is 16 for every set.
        for (int value = 0; value < 16; value++) {
            StructureLearner x = fresh();
            due("learn", x.learn(0x1111111111111111L * value), 0);
            dueBySize("sixteen times " + value, x, 16 - 3, 16 - 6, 16 - 12, 16 - 24);
        }
    }

    private static void learnEverySet() {
        says("learn: for every variable and set of parents");
        // Cases without a pattern, of which some come twice.
        long cases = 0xE0F1D3B597E0F1D3L;
        StructureLearner x = fresh();
        setAll(x, 999);
        due("learn", x.learn(cases), 0);
        for (int v = 0; v < 4; v++) {
            for (int p = 0; p < 16; p++) {
                if (isOthers(v, p)) {
                    int due = hits(v, p, cases) - 3 * (1 << Integer.bitCount(p));
                    due("scoreOf(" + v + ", " + p + ")", x.scoreOf(v, p), due);
                }
            }
        }
    }

    private static int hits(int variable, int parents, long cases) {
        int[][] counts = new int[16][2];
        for (int j = 0; j < 16; j++) {
            int value = (int) (cases >>> 4 * j) & 15;
            counts[value & parents][value >> variable & 1]++;
        }
        return Arrays.stream(counts).mapToInt(count -> Math.max(count[0], count[1])).sum();
    }

    private static void learnFirstAndLastCase() {
        says("learn: case j being (cases >> (4 * j)) & 15 for j from 0 to 15");
        for (int j = 0; j <= 15; j++) {
            for (int i = 0; i < 4; i++) {
                StructureLearner x = fresh();
                // Variable i is 1 in case j alone; in case 15 variable 3 is the sign.
                x.learn(1L << (4 * j + i));
                for (int v = 0; v < 4; v++) {
                    due("bit " + i + " of case " + j + ", scoreOf(" + v + ", 0)", x.scoreOf(v, 0), v == i ? 12 : 13);
                }
            }
        }
        StructureLearner x = fresh();
        due("learn of the least long", x.learn(Long.MIN_VALUE), 0);
        due("least, scoreOf(3, 0)", x.scoreOf(3, 0), 15 - 3);
        due("least, scoreOf(0, 0)", x.scoreOf(0, 0), 16 - 3);
        due("learn of the greatest long", x.learn(Long.MAX_VALUE), 0);
        due("greatest, scoreOf(3, 0)", x.scoreOf(3, 0), 15 - 3);
        due("greatest, scoreOf(0, 0)", x.scoreOf(0, 0), 16 - 3);
    }

    private static void learnTies() {
        says("learn: the greater of two numbers, of cases in which the variable is 0 and in which it is 1");
        for (int ones = 0; ones <= 16; ones++) {
            StructureLearner x = fresh();
            long cases = 0;
            for (int j = 0; j < ones; j++) {
                cases |= 15L << (4 * j);
            }
            x.learn(cases);
            int greater = ones > 16 - ones ? ones : 16 - ones;
            dueBySize(ones + " of sixteen", x, greater - 3, 16 - 6, 16 - 12, 16 - 24);
        }
    }

    private static void learnEmptySettings() {
        says("learn: for each way to set the parents; hits is the sum of these");
        // Every value once: each setting of k parents has 16 / 2^k cases, half of them ones.
        StructureLearner x = fresh();
        x.learn(0x0123456789ABCDEFL);
        dueBySize("every value once", x, 8 - 3, 8 - 6, 8 - 12, 8 - 24);
        // Values 0 to 3 four times each: the settings with 2 or 3 at 1 have no case.
        StructureLearner y = fresh();
        y.learn(0x3210321032103210L);
        due("no case with 2 or 3 at 1, scoreOf(0, 12)", y.scoreOf(0, 12), 8 - 12);
        due("no case with 2 or 3 at 1, scoreOf(0, 14)", y.scoreOf(0, 14), 8 - 24);
        due("no case with 2 or 3 at 1, scoreOf(2, 11)", y.scoreOf(2, 11), 16 - 24);
    }

    private static void learnKeepsTheRest() {
        says("learn: Fills in scores; Answers 0");
        StructureLearner x = used();
        due("learn", x.learn(0x5555555555555555L), 0);
        due("the limit stays", x.limit(2), 2);
        due("a required edge stays", x.edge(3, 1, 2), 2);
        due("another required edge stays", x.edge(0, 2, 2), 2);
        due("a forbidden edge stays", x.edge(1, 0, 1), 1);
        due("a free edge stays", x.edge(2, 3, 0), 0);
        due("best: two of no parents, two of one", x.best(), 13 + 13 + 10 + 10);
        StructureLearner y = noneAllowed();
        due("learn where none is allowed", y.learn(0L), 0);
        due("best where none is allowed", y.best(), NONE);
    }

    private static void learnForgets() {
        says("learn: the score becomes what these cases give, whatever it was");
        StructureLearner x = fresh();
        setAll(x, 1000);
        x.learn(-1L);
        x.learn(0L);
        dueBySize("after scores and another learn", x, 13, 10, 4, -8);
        x.score(0, 0, -1000);
        due("score after learn", x.scoreOf(0, 0), -1000);
        x.learn(0L);
        due("learn after score", x.scoreOf(0, 0), 13);
    }

    // ---- Promises 6 and 7

    private static void best() {
        says("best: The greatest worth of an allowed structure");
        StructureLearner x = fresh();
        setAll(x, 1000);
        due("greatest of all", x.best(), 4000);
        setAll(x, -1000);
        due("least of all, which is still not NONE", x.best(), -4000);
        x.score(2, 0, -999);
        due("the empty structure", x.best(), -3999);
        x.score(1, 13, -998);
        x.score(0, 12, -997);
        x.score(2, 8, -996);
        due("the fullest structure", x.best(), -998 - 997 - 996 - 1000);
        says("best: NONE");
        due("none allowed", noneAllowed().best(), NONE);
        due("none allowed, and scores the greatest", richButNone().best(), NONE);
    }

    private static StructureLearner richButNone() {
        StructureLearner x = fresh();
        setAll(x, 1000);
        x.limit(0);
        x.edge(2, 1, 2);
        return x;
    }

    private static void parents() {
        says("parents: The parents of a variable in the first allowed structure of that worth");
        StructureLearner x = fresh();
        setAll(x, 1000);
        dueParents("all alike", x, 0, 0, 0, 0);
        x.edge(3, 0, 2);
        dueParents("all alike, but 3 to 0 required", x, 8, 0, 0, 0);
        x.score(0, 8, 999);
        dueParents("and that one worth less", x, 10, 0, 0, 0);
        x.edge(1, 0, 1);
        dueParents("and 1 to 0 forbidden", x, 12, 0, 0, 0);
        x.limit(1);
        dueParents("and limit 1", x, 8, 0, 0, 0);
        says("parents: NONE");
        dueParents("none allowed", richButNone(), NONE, NONE, NONE, NONE);
        says("parents: BAD_VARIABLE (tested first)");
        for (int v : NO_VARIABLES) {
            due("parents(" + v + ")", fresh().parents(v), BAD_VARIABLE);
            due("parents(" + v + "), none allowed", noneAllowed().parents(v), BAD_VARIABLE);
        }
    }

    // ---- Promises 8 and 9, with 13

    private static void bestWith() {
        says("bestWith: BAD_VARIABLE (also for u == v), tested before NONE");
        for (int state = 0; state < 3; state++) {
            for (int w : NO_VARIABLES) {
                StructureLearner x = inState(state);
                for (int v = 0; v < 4; v++) {
                    due("bestWith(" + w + ", " + v + "), state " + state, x.bestWith(w, v), BAD_VARIABLE);
                    due("bestWith(" + v + ", " + w + "), state " + state, x.bestWith(v, w), BAD_VARIABLE);
                    due("bestWith(" + v + ", " + v + "), state " + state, x.bestWith(v, v), BAD_VARIABLE);
                }
                due("bestWith(" + w + ", " + w + "), state " + state, x.bestWith(w, w), BAD_VARIABLE);
            }
        }
        says("bestWith: NONE");
        for (int u = 0; u < 4; u++) {
            for (int v = 0; v < 4; v++) {
                if (u != v) {
                    noneWith(u, v);
                }
            }
        }
        bestWithLess();
    }

    private static void noneWith(int u, int v) {
        String what = "bestWith(" + u + ", " + v + ")";
        StructureLearner x = fresh();
        x.edge(u, v, 1);
        due(what + ", forbidden", x.bestWith(u, v), NONE);
        x.edge(u, v, 0);
        x.edge(v, u, 2);
        due(what + ", the other way required", x.bestWith(u, v), NONE);
        x.edge(v, u, 0);
        x.limit(0);
        due(what + ", limit 0", x.bestWith(u, v), NONE);
        x.limit(1);
        due(what + ", limit 1", x.bestWith(u, v), 0);
        int w = u != 0 && v != 0 ? 0 : u != 1 && v != 1 ? 1 : 2;
        x.edge(w, v, 2);
        due(what + ", the limit is used up", x.bestWith(u, v), NONE);
        x.edge(w, v, 0);
        x.edge(v, w, 2);
        x.edge(w, u, 2);
        due(what + ", a way back is required", x.bestWith(u, v), NONE);
        due(what + " without it", x.bestWithout(u, v), 0);
    }

    private static void bestWithLess() {
        says("bestWith: The greatest worth of an allowed structure with the edge from u to v");
        StructureLearner x = fresh();
        setAll(x, -1000);
        x.score(0, 0, 1000);
        due("the least with it", x.bestWith(1, 0), -4000);
        x.score(0, 14, -999);
        due("with it and others", x.bestWith(1, 0), -3999);
        due("with another", x.bestWith(0, 1), -2000);
        due("best is still best", x.best(), -2000);
        x.edge(1, 0, 2);
        due("with a required one", x.bestWith(1, 0), x.best());
    }

    private static void bestWithout() {
        says("bestWithout: BAD_VARIABLE if u or v is not in 0 to 3 or u == v, tested before NONE");
        for (int state = 0; state < 3; state++) {
            for (int w : NO_VARIABLES) {
                StructureLearner x = inState(state);
                for (int v = 0; v < 4; v++) {
                    due("bestWithout(" + w + ", " + v + "), state " + state, x.bestWithout(w, v), BAD_VARIABLE);
                    due("bestWithout(" + v + ", " + w + "), state " + state, x.bestWithout(v, w), BAD_VARIABLE);
                    due("bestWithout(" + v + ", " + v + "), state " + state, x.bestWithout(v, v), BAD_VARIABLE);
                }
                due("bestWithout(" + w + ", " + w + "), state " + state, x.bestWithout(w, w), BAD_VARIABLE);
            }
        }
        says("bestWithout: NONE");
        for (int u = 0; u < 4; u++) {
            for (int v = 0; v < 4; v++) {
                if (u != v) {
                    StructureLearner x = fresh();
                    x.edge(u, v, 2);
                    due("bestWithout(" + u + ", " + v + "), required", x.bestWithout(u, v), NONE);
                    due("bestWithout(" + v + ", " + u + "), the other way required", x.bestWithout(v, u), 0);
                    x.edge(u, v, 1);
                    due("bestWithout(" + u + ", " + v + "), forbidden", x.bestWithout(u, v), 0);
                    due("bestWithout(" + u + ", " + v + "), none allowed", noneAllowed().bestWithout(u, v), NONE);
                }
            }
        }
        says("bestWithout: The greatest worth of an allowed structure without the edge from u to v");
        StructureLearner x = fresh();
        setAll(x, -1000);
        x.score(0, 2, 1000);
        due("the least without it", x.bestWithout(1, 0), -4000);
        x.score(0, 12, -999);
        due("without it, but others", x.bestWithout(1, 0), -3999);
        due("without another", x.bestWithout(2, 0), -2000);
        x.edge(1, 0, 1);
        due("without a forbidden one", x.bestWithout(1, 0), x.best());
    }

    // ---- Promises 10 and 11

    private static void edges() {
        says("edges: How many edges the first allowed structure of the greatest worth has");
        int[][] structures = {
            {0, 0, 0, 0}, {0, 1, 0, 0}, {0, 1, 1, 0}, {0, 1, 3, 0}, {0, 1, 3, 1}, {0, 1, 3, 3}, {0, 1, 3, 7},
            {14, 12, 8, 0}, {0, 13, 1, 5},
        };
        int[] dues = {0, 1, 2, 3, 4, 5, 6, 6, 6};
        for (int i = 0; i < structures.length; i++) {
            StructureLearner x = fresh();
            for (int v = 0; v < 4; v++) {
                x.score(v, structures[i][v], 1);
            }
            due(Arrays.toString(structures[i]), x.edges(), dues[i]);
        }
        StructureLearner x = fresh();
        x.score(1, 13, 5);
        x.score(0, 2, 5);
        due("the first of two has more edges", x.edges(), 3);
        x = fresh();
        x.score(0, 14, 5);
        x.score(1, 1, 5);
        due("the first of two has fewer edges", x.edges(), 1);
        says("edges: NONE");
        due("none allowed", noneAllowed().edges(), NONE);
        due("none allowed, and scores the greatest", richButNone().edges(), NONE);
    }

    private static void orders() {
        says("orders: How many of the 24 orders of the variables");
        due("all of them", fresh().orders(), 24);
        int[] dues = {24, 12, 8, 4, 3, 2, 1};
        int[][] steps = {{0, 1}, {0, 2}, {1, 2}, {0, 3}, {1, 3}, {2, 3}};
        // Orders left: 0 before 1; 0 first of 0, 1, 2; 0, 1, 2; then 3 behind 0, behind 1, last.
        StructureLearner x = fresh();
        for (int i = 0; i < steps.length; i++) {
            due(i + " edges required", x.orders(), dues[i]);
            x.edge(steps[i][0], steps[i][1], 2);
        }
        due("all six required", x.orders(), dues[6]);
        says("orders: some allowed structure of the greatest worth has each variable's parents all before it");
        StructureLearner y = fresh();
        y.score(0, 2, 5);
        y.score(1, 1, 5);
        due("either way between 0 and 1", y.orders(), 24);
        y.score(1, 1, 6);
        due("one way is worth one more", y.orders(), 12);
        y.edge(0, 1, 1);
        due("that way is forbidden", y.orders(), 12);
        y.limit(0);
        due("limit 0", y.orders(), 24);
        StructureLearner z = fresh();
        setAll(z, -1000);
        due("all alike and the least", z.orders(), 24);
        z.score(3, 7, -999);
        due("3 is last", z.orders(), 6);
        says("orders: 0 if none is allowed");
        due("none allowed", noneAllowed().orders(), 0);
        due("none allowed, and scores the greatest", richButNone().orders(), 0);
    }

    // ---- Promise 12

    private static void scoreOf() {
        says("scoreOf: 0 if variable is not in 0 to 3");
        for (int v : NO_VARIABLES) {
            StructureLearner x = fresh();
            setAll(x, 321);
            for (int p = 0; p < 16; p++) {
                due("scoreOf(" + v + ", " + p + ")", x.scoreOf(v, p), 0);
            }
        }
        says("scoreOf: 0 if parents no mask of others");
        for (int v = 0; v < 4; v++) {
            StructureLearner x = fresh();
            setAll(x, 321);
            for (int p : NO_MASKS) {
                due("scoreOf(" + v + ", " + p + ")", x.scoreOf(v, p), 0);
            }
            for (int p = 0; p < 16; p++) {
                due("scoreOf(" + v + ", " + p + ")", x.scoreOf(v, p), isOthers(v, p) ? 321 : 0);
            }
        }
        says("scoreOf: 0 if neither is right");
        for (int v : NO_VARIABLES) {
            for (int p : NO_MASKS) {
                StructureLearner x = fresh();
                setAll(x, 321);
                x.learn(-1L);
                due("scoreOf(" + v + ", " + p + ")", x.scoreOf(v, p), 0);
            }
        }
        says("scoreOf: A score, after learn too");
        StructureLearner x = fresh();
        x.learn(0L);
        for (int v = 0; v < 4; v++) {
            for (int p = 0; p < 16; p++) {
                int due = 16 - 3 * (1 << Integer.bitCount(p));
                due("scoreOf(" + v + ", " + p + ")", x.scoreOf(v, p), isOthers(v, p) ? due : 0);
            }
        }
    }

    // ---- What holds for the object as a whole

    private static void wholeObject() {
        questionsChangeNothing();
        the512thCall();
    }

    private static void questionsChangeNothing() {
        says("The calls below change nothing");
        int[] some = {0, 1, 2, 3, -1, 4, MIN, MAX};
        for (int state = 0; state < 3; state++) {
            for (int kind = 0; kind < 7; kind++) {
                StructureLearner x = inState(state);
                int[] before = all(x);
                for (int a : some) {
                    for (int b : some) {
                        ask(x, kind, a, b);
                    }
                }
                dueSame("state " + state + ", question " + kind, x, before);
            }
        }
    }

    private static int ask(StructureLearner x, int kind, int a, int b) {
        switch (kind) {
            case 0: return x.best();
            case 1: return x.parents(a);
            case 2: return x.bestWith(a, b);
            case 3: return x.bestWithout(a, b);
            case 4: return x.edges();
            case 5: return x.orders();
            default: return x.scoreOf(a, b);
        }
    }

    private static void the512thCall() {
        says("An object is used for at most 512 calls");
        int[] dues = {700, 8, NONE, 700, 1, 12, 700, 0, 2, 2, 0};
        for (int kind = 0; kind < dues.length; kind++) {
            due("call 512 of kind " + kind, lastCall(behind511(false), kind), dues[kind]);
            due("call 512 of kind " + kind + " behind refused ones", lastCall(behind511(true), kind), dues[kind]);
        }
    }

    private static StructureLearner behind511(boolean refused) {
        StructureLearner x = fresh();
        for (int call = 0; call < 508; call++) {
            if (refused) {
                x.score(0, 0, 1001);
            } else {
                callThatKeepsAllNew(x, call);
            }
        }
        x.limit(2);
        x.score(1, 8, 700);
        x.edge(3, 1, 2);
        return x;
    }

    private static void callThatKeepsAllNew(StructureLearner x, int call) {
        int v = call / 4 % 4;
        switch (call % 4) {
            case 0: x.score(v, 0, 0); break;
            case 1: x.limit(3); break;
            case 2: x.edge(v, (v + 1) % 4, 0); break;
            default: ask(x, call / 4 % 7, v, 3); break;
        }
    }

    private static int lastCall(StructureLearner x, int kind) {
        switch (kind) {
            case 6: return x.scoreOf(1, 8);
            case 7: return x.score(0, 0, 0);
            case 8: return x.limit(3);
            case 9: return x.edge(3, 1, 0);
            case 10: return x.learn(-1L);
            default: return ask(x, kind, 1, 3);
        }
    }
}
