import java.util.ArrayList;
import java.util.List;
import java.util.function.Consumer;
import java.util.function.ToIntFunction;

/**
 * Each sentence of the document that names a boundary case, in the document's order: the value on each side of
 * the boundary, the least and the greatest int, and, for a refused call, that it changes nothing.
 */
public final class BoundaryTest {
    private static final int BAD_ARG = -1;
    private static final int NONE = -4;
    private static final int LEAST = Integer.MIN_VALUE;
    private static final int GREATEST = Integer.MAX_VALUE;
    private static final List<Beginning> BEGINNINGS = Beginning.all();

    public static void main(String[] args) {
        terms();
        promise1();
        promise2();
        promise3();
        promise4();
        promise5();
        promise6();
        promise7();
        promise8();
        promise9();
        promise10();
        promise11();
        promise12();
        promise13();
        promise14();
        promise15();
        Due.end();
    }

    // What it is, and the terms

    private static void terms() {
        eachOf512CallsIsAnswered();
        edgesHaveNoDirection();
        aPathHasNoVertexTwice();
        aPathIsNotApartFromItself();
        theEmptySetIsACut();
        aCutIsWithoutSourceAndTarget();
        noCallEverThrows();
        questionsChangeNothing();
        objectsAreApart();
    }

    /** Every call in turn as the 512th one, after 511 that came to a graph of all edges, ends 0 and 7. */
    private static void eachOf512CallsIsAnswered() {
        lastCall("vertices", DisjointPaths::vertices, 8);
        lastCall("edge put", x -> x.edge(0, 7, 1), 1);
        lastCall("edge taken", x -> x.edge(0, 7, 0), 1);
        lastCall("edge refused", x -> x.edge(0, 8, 0), BAD_ARG);
        lastCall("joined", x -> x.joined(6, 7) ? 1 : 0, 1);
        lastCall("ends", x -> x.ends(1, 2), 0);
        lastCall("ends refused", x -> x.ends(2, 2), BAD_ARG);
        lastCall("paths", DisjointPaths::paths, 7);
        lastCall("cutSize", DisjointPaths::cutSize, NONE);
        lastCall("firstCut", DisjointPaths::firstCut, NONE);
        lastCall("cutWith", x -> x.cutWith(1), NONE);
        lastCall("loss", x -> x.loss(1), 1);
        lastCall("tightEdges", DisjointPaths::tightEdges, 13);
        lastCall("helpfulEdges", DisjointPaths::helpfulEdges, 0);
        lastCall("distance", DisjointPaths::distance, 1);
        lastCall("strength", DisjointPaths::strength, 7);
        lastCall("clear", DisjointPaths::clear, 28);
    }

    private static void lastCall(String name, ToIntFunction<DisjointPaths> call, int want) {
        DisjointPaths asked = Graphs.complete(8);
        DisjointPaths changed = Graphs.complete(8);
        for (int i = 29; i <= 511; i++) {
            Due.is("call " + i + " of 512", asked.distance(), 1);
            Due.is("call " + i + " of 512", changed.edge(0, 7, i % 2), i == 29 || i % 2 == 0 ? 1 : 0);
        }
        Due.is("the 512th call, " + name + ", after questions", call.applyAsInt(asked), want);
        Due.is("the 512th call, " + name + ", after changes", call.applyAsInt(changed), want);
    }

    private static void edgesHaveNoDirection() {
        for (int n = 3; n <= 8; n++) {
            for (int u = 0; u < n; u++) {
                for (int v = 0; v < n; v++) {
                    if (u != v) {
                        DisjointPaths x = Graphs.of(n, u, v);
                        Due.is("edge " + u + ", " + v + " from the other side", x.joined(v, u), true);
                        x.ends(u, v);
                        Due.is("along the edge", x.distance(), 1);
                        x.ends(v, u);
                        Due.is("against the edge", x.distance(), 1);
                        Due.is("the edge put from the other side", x.edge(v, u, 1), 1);
                        Due.is("it is one edge", x.clear(), 1);
                    }
                }
            }
        }
    }

    private static void aPathHasNoVertexTwice() {
        DisjointPaths deadEnd = Graphs.of(5, 0, 1, 1, 4, 1, 2, 2, 3, 3, 1);
        Due.is("a round through 1 makes no second path", deadEnd.paths(), 1);
        Due.is("nothing is lost with the round", deadEnd.loss(2), 0);
        Due.is("the edges of the round are not tight", deadEnd.tightEdges(), 2);
        DisjointPaths behind = Graphs.of(6, 0, 1, 1, 5, 0, 2, 2, 3, 5, 4);
        Due.is("no path goes on behind T", behind.paths(), 1);
        Due.is("no path begins before S", behind.tightEdges(), 2);
        Due.is("S and T again on the way do not join 3 to 4", behind.cutWith(3), 2);
    }

    private static void aPathIsNotApartFromItself() {
        for (int n = 3; n <= 8; n++) {
            Due.is("the direct path counts once, " + n, Graphs.of(n, 0, n - 1).paths(), 1);
            Due.is("a path through 1 counts once, " + n, Graphs.of(n, 0, 1, 1, n - 1).paths(), 1);
            Due.is("both count, " + n, Graphs.of(n, 0, n - 1, 0, 1, 1, n - 1).paths(), 2);
        }
    }

    private static void theEmptySetIsACut() {
        for (int n = 3; n <= 8; n++) {
            DisjointPaths x = new DisjointPaths(n);
            Due.is("no path: a cut of no vertex, " + n, x.cutSize(), 0);
            Due.is("no path: the empty set, " + n, x.firstCut(), 0);
            x.edge(0, 1, 1);
            Due.is("an edge that leads nowhere, " + n, x.cutSize(), 0);
            x.edge(1, n - 1, 1);
            Due.is("a path: a cut of one vertex, " + n, x.cutSize(), 1);
            Due.is("a path: the set of vertex 1, " + n, x.firstCut(), 2);
        }
    }

    private static void aCutIsWithoutSourceAndTarget() {
        for (int n = 3; n <= 8; n++) {
            for (int s = 0; s < n; s++) {
                for (int t = s + 1; t < n; t++) {
                    DisjointPaths x = Graphs.completeBut(n, s, t);
                    x.ends(s, t);
                    int inner = (1 << n) - 1 - (1 << s) - (1 << t);
                    Due.is("all but " + s + " and " + t + " of " + n, x.firstCut(), inner);
                    Due.is("turned round", x.ends(t, s), 0);
                    Due.is("all but " + t + " and " + s + " of " + n, x.firstCut(), inner);
                }
            }
        }
    }

    private static void noCallEverThrows() {
        int[] numbers = {LEAST, LEAST + 1, -32, -8, -1, 0, 1, 2, 3, 7, 8, 9, 31, 32, 33, GREATEST - 1, GREATEST};
        for (Beginning b : BEGINNINGS) {
            for (int u : numbers) {
                DisjointPaths x = b.make();
                doesNotThrow("cutWith", x, y -> y.cutWith(u));
                doesNotThrow("loss", x, y -> y.loss(u));
                doesNotThrow("new", x, y -> new DisjointPaths(u));
                for (int v : numbers) {
                    doesNotThrow("joined", x, y -> y.joined(u, v));
                    doesNotThrow("edge", x, y -> y.edge(u, v, LEAST));
                    doesNotThrow("edge", x, y -> y.edge(u, v, 0));
                    doesNotThrow("ends", x, y -> y.ends(u, v));
                    doesNotThrow("paths", x, DisjointPaths::paths);
                    doesNotThrow("firstCut", x, DisjointPaths::firstCut);
                    doesNotThrow("cutSize", x, DisjointPaths::cutSize);
                    doesNotThrow("distance", x, DisjointPaths::distance);
                }
                doesNotThrow("tightEdges", x, DisjointPaths::tightEdges);
                doesNotThrow("helpfulEdges", x, DisjointPaths::helpfulEdges);
                doesNotThrow("strength", x, DisjointPaths::strength);
                doesNotThrow("clear", x, DisjointPaths::clear);
            }
        }
    }

    private static void doesNotThrow(String name, DisjointPaths x, Consumer<DisjointPaths> call) {
        try {
            call.accept(x);
        } catch (RuntimeException | Error thrown) {
            Due.is(name, "threw " + thrown, "any answer");
        }
    }

    private static void questionsChangeNothing() {
        for (Beginning b : BEGINNINGS) {
            changesNothing("vertices", b, DisjointPaths::vertices);
            changesNothing("paths", b, DisjointPaths::paths);
            changesNothing("cutSize", b, DisjointPaths::cutSize);
            changesNothing("firstCut", b, DisjointPaths::firstCut);
            changesNothing("tightEdges", b, DisjointPaths::tightEdges);
            changesNothing("helpfulEdges", b, DisjointPaths::helpfulEdges);
            changesNothing("distance", b, DisjointPaths::distance);
            for (int v = 0; v < b.n(); v++) {
                int vertex = v;
                changesNothing("cutWith(" + v + ")", b, x -> x.cutWith(vertex));
                changesNothing("loss(" + v + ")", b, x -> x.loss(vertex));
                changesNothing("joined(0, " + v + ")", b, x -> x.joined(0, vertex));
            }
        }
    }

    /** What is promised of an object holds whatever calls another one gets in between. */
    private static void objectsAreApart() {
        for (Beginning b : BEGINNINGS) {
            DisjointPaths x = b.make();
            DisjointPaths other = new DisjointPaths(11 - b.n());
            other.ends(2, 0);
            other.edge(0, 1, 1);
            other.edge(1, 2, 1);
            Due.is("of another object: " + b.name(), other.paths(), 1);
            other.clear();
            Due.is("calls of another object, " + b.name(), State.of(x), State.of(b.make()));
        }
    }

    // Promise 1: below 3 it becomes 3, above 8 it becomes 8. No edge; S is 0 and T is N - 1.

    private static void promise1() {
        for (int below : new int[] {2, 1, 0, -1, -3, -8, LEAST + 1, LEAST}) {
            isNew("1: below 3: " + below, new DisjointPaths(below), 3);
        }
        for (int n = 3; n <= 8; n++) {
            isNew("1: in the range: " + n, new DisjointPaths(n), n);
        }
        // The later ones would be in the range if they were cut to a byte, a short or a few bits.
        for (int above : new int[] {9, 10, 16, GREATEST, GREATEST - 1, 32 + 5, 256 + 5, (1 << 16) + 5}) {
            isNew("1: above 8: " + above, new DisjointPaths(above), 8);
        }
    }

    private static void isNew(String what, DisjointPaths x, int n) {
        Due.is(what + ": N", x.vertices(), n);
        Due.is(what + ": the last vertex", x.edge(0, n - 1, 0), 0);
        Due.is(what + ": behind the last vertex", x.edge(0, n, 0), BAD_ARG);
        Due.is(what + ": no edge", Graphs.edgesOf(x), 0);
        for (int v = 0; v < n; v++) {
            boolean end = v == 0 || v == n - 1;
            Due.is(what + ": S is 0 and T is N - 1: cutWith(" + v + ")", x.cutWith(v), end ? NONE : 1);
        }
        Due.is(what + ": no edge to clear", x.clear(), 0);
    }

    // Promise 2: N, which no call changes.

    private static void promise2() {
        for (Beginning b : BEGINNINGS) {
            DisjointPaths x = b.make();
            Due.is("2: " + b.name(), x.vertices(), b.n());
            x.edge(0, 8, 1);
            x.edge(LEAST, GREATEST, 1);
            x.ends(0, 8);
            x.ends(1, 0);
            x.strength();
            Due.is("2: after calls, " + b.name(), x.vertices(), b.n());
            x.clear();
            Due.is("2: after clear, " + b.name(), x.vertices(), b.n());
        }
    }

    // Promise 3

    private static void promise3() {
        edgeOfNoVertexIsRefused();
        edgeOfAVertexWithItselfIsRefused();
        edgeOfTheFirstAndTheLastVertex();
        anyOnButZeroPuts();
        onZeroTakesAway();
        edgeAnswersWhatWasBefore();
    }

    private static void edgeOfNoVertexIsRefused() {
        for (Beginning b : BEGINNINGS) {
            for (int bad : noVertices(b.n())) {
                for (int good : new int[] {0, b.n() - 1}) {
                    for (int on : new int[] {0, 1}) {
                        refused("3: edge(" + bad + ", " + good + ", " + on + ")", b, x -> x.edge(bad, good, on));
                        refused("3: edge(" + good + ", " + bad + ", " + on + ")", b, x -> x.edge(good, bad, on));
                    }
                }
                refused("3: edge(" + bad + ", " + bad + ", 1)", b, x -> x.edge(bad, bad, 1));
                refused("3: edge(" + bad + ", -1, 1)", b, x -> x.edge(bad, -1, 1));
                refused("3: edge(" + b.n() + ", " + bad + ", 0)", b, x -> x.edge(b.n(), bad, 0));
            }
        }
    }

    private static void edgeOfAVertexWithItselfIsRefused() {
        for (Beginning b : BEGINNINGS) {
            for (int v = 0; v < b.n(); v++) {
                int vertex = v;
                for (int on : new int[] {0, 1, LEAST, GREATEST}) {
                    refused("3: edge(" + v + ", " + v + ", " + on + ")", b, x -> x.edge(vertex, vertex, on));
                }
            }
            // One edge of a vertex with itself might be lost where the edges are counted, but not all of them.
            changesNothing("3: all edges of a vertex with itself", b, x -> {
                for (int v = 0; v < b.n(); v++) {
                    x.edge(v, v, 1);
                }
            });
        }
    }

    private static void edgeOfTheFirstAndTheLastVertex() {
        for (int n = 3; n <= 8; n++) {
            DisjointPaths x = new DisjointPaths(n);
            Due.is("3: first and last of " + n, x.edge(0, n - 1, 1), 0);
            Due.is("3: first and second of " + n, x.edge(1, 0, 1), 0);
            Due.is("3: the last two of " + n, x.edge(n - 1, n - 2, 1), 0);
            Due.is("3: first and last of " + n + " are joined", x.joined(n - 1, 0), true);
            Due.is("3: three edges", x.clear(), 3);
        }
    }

    private static void anyOnButZeroPuts() {
        int[] notZero = {1, -1, 2, -2, 16, 256, 1 << 16, 1 << 30, LEAST, LEAST + 1, GREATEST - 1, GREATEST};
        for (int on : notZero) {
            DisjointPaths x = new DisjointPaths(3);
            Due.is("3: put with on " + on, x.edge(0, 1, on), 0);
            Due.is("3: is put with on " + on, x.joined(0, 1), true);
            Due.is("3: put again with on " + on, x.edge(0, 1, on), 1);
            Due.is("3: stays with on " + on, x.joined(0, 1), true);
            Due.is("3: one edge with on " + on, x.clear(), 1);
        }
    }

    private static void onZeroTakesAway() {
        DisjointPaths x = Graphs.complete(8);
        for (int u = 0; u < 8; u++) {
            for (int v = u + 1; v < 8; v++) {
                Due.is("3: taken away " + u + ", " + v, x.edge(v, u, 0), 1);
                Due.is("3: is away " + u + ", " + v, x.joined(u, v), false);
                Due.is("3: taken away again " + u + ", " + v, x.edge(u, v, 0), 0);
                Due.is("3: stays away " + u + ", " + v, x.joined(v, u), false);
            }
        }
        Due.is("3: none is left", x.clear(), 0);
    }

    private static void edgeAnswersWhatWasBefore() {
        for (int n = 3; n <= 8; n++) {
            for (int u = 0; u < n; u++) {
                for (int v = 0; v < n; v++) {
                    if (u != v) {
                        DisjointPaths x = new DisjointPaths(n);
                        Due.is("3: away, taken away", x.edge(u, v, 0), 0);
                        Due.is("3: away, put", x.edge(u, v, 1), 0);
                        Due.is("3: there, put", x.edge(v, u, 1), 1);
                        Due.is("3: there, taken away", x.edge(u, v, 0), 1);
                        Due.is("3: away again", x.edge(v, u, 0), 0);
                    }
                }
            }
        }
    }

    // Promise 4: false if there are no such vertices

    private static void promise4() {
        for (Beginning b : BEGINNINGS) {
            for (int bad : noVertices(b.n())) {
                DisjointPaths x = b.make();
                for (int good = 0; good < b.n(); good++) {
                    Due.is("4: joined(" + good + ", " + bad + "), " + b.name(), x.joined(good, bad), false);
                    Due.is("4: joined(" + bad + ", " + good + "), " + b.name(), x.joined(bad, good), false);
                }
                Due.is("4: joined(" + bad + ", " + bad + "), " + b.name(), x.joined(bad, bad), false);
                Due.is("4: joined(" + bad + ", -1), " + b.name(), x.joined(bad, -1), false);
                changesNothing("4: joined(0, " + bad + ")", b, y -> y.joined(0, bad));
                changesNothing("4: joined(" + bad + ", 0)", b, y -> y.joined(bad, 0));
            }
            DisjointPaths x = b.make();
            for (int v = 0; v < b.n(); v++) {
                Due.is("4: joined(" + v + ", " + v + "), " + b.name(), x.joined(v, v), false);
            }
        }
        for (int n = 3; n <= 8; n++) {
            Due.is("4: the first and the last vertex of " + n, Graphs.complete(n).joined(0, n - 1), true);
            Due.is("4: the last and the first vertex of " + n, Graphs.complete(n).joined(n - 1, 0), true);
            Due.is("4: without an edge of " + n, Graphs.completeBut(n, 0, n - 1).joined(0, n - 1), false);
        }
    }

    // Promise 5

    private static void promise5() {
        endsThatAreNoVerticesAreRefused();
        endsThatAreTheSameAreRefused();
        anyTwoVerticesBecomeTheEnds();
    }

    private static void endsThatAreNoVerticesAreRefused() {
        for (Beginning b : BEGINNINGS) {
            for (int bad : noVertices(b.n())) {
                for (int good = 0; good < b.n(); good++) {
                    int vertex = good;
                    refused("5: ends(" + bad + ", " + good + ")", b, x -> x.ends(bad, vertex));
                    refused("5: ends(" + good + ", " + bad + ")", b, x -> x.ends(vertex, bad));
                }
                refused("5: ends(" + bad + ", " + bad + ")", b, x -> x.ends(bad, bad));
                refused("5: ends(" + bad + ", -1)", b, x -> x.ends(bad, -1));
            }
        }
    }

    private static void endsThatAreTheSameAreRefused() {
        for (Beginning b : BEGINNINGS) {
            for (int v = 0; v < b.n(); v++) {
                int vertex = v;
                refused("5: ends(" + v + ", " + v + ")", b, x -> x.ends(vertex, vertex));
            }
        }
    }

    private static void anyTwoVerticesBecomeTheEnds() {
        for (int n = 3; n <= 8; n++) {
            DisjointPaths x = new DisjointPaths(n);
            for (int s = 0; s < n; s++) {
                for (int t = 0; t < n; t++) {
                    if (s != t) {
                        Due.is("5: ends(" + s + ", " + t + ") of " + n, x.ends(s, t), 0);
                        Due.is("5: S is " + s + " of " + n, x.cutWith(s), NONE);
                        Due.is("5: T is " + t + " of " + n, x.cutWith(t), NONE);
                        int other = s != 0 && t != 0 ? 0 : s != 1 && t != 1 ? 1 : 2;
                        Due.is("5: " + other + " is no end of " + n, x.cutWith(other), 1);
                        Due.is("5: no edge is put", x.joined(s, t), false);
                    }
                }
            }
        }
        DisjointPaths x = Graphs.line(4);
        Due.is("5: the ends that are there already", x.ends(0, 3), 0);
        Due.is("5: they stay", x.distance(), 3);
        Due.is("5: turned round", x.ends(3, 0), 0);
        Due.is("5: the way back", x.distance(), 3);
        Due.is("5: the edges stay", x.clear(), 3);
    }

    // Promise 6

    private static void promise6() {
        for (int n = 3; n <= 8; n++) {
            DisjointPaths x = new DisjointPaths(n);
            Due.is("6: no edge, " + n, x.paths(), 0);
            x.edge(0, n - 1, 1);
            Due.is("6: S to T alone, " + n, x.paths(), 1);
            Due.is("6: all edges, " + n, Graphs.complete(n).paths(), n - 1);
            Due.is("6: all edges but S to T, " + n, Graphs.completeBut(n, 0, n - 1).paths(), n - 2);
            Due.is("6: all edges but 0 to 1, " + n, Graphs.completeBut(n, 0, 1).paths(), n - 2);
        }
        Due.is("6: all edges but one that no path needs", Graphs.completeBut(8, 3, 4).paths(), 7);
        Due.is("6: a path through all vertices", Graphs.line(8).paths(), 1);
        Due.is("6: two paths with one vertex in common", Graphs.of(5, 0, 1, 0, 2, 1, 3, 2, 3, 3, 4).paths(), 1);
    }

    // Promises 7 and 8: NONE if there is no cut (S and T have an edge)

    private static void promise7() {
        for (int n = 3; n <= 8; n++) {
            Due.is("7: no edge, " + n, new DisjointPaths(n).cutSize(), 0);
            Due.is("7: S to T alone, " + n, Graphs.of(n, 0, n - 1).cutSize(), NONE);
            Due.is("7: all edges, " + n, Graphs.complete(n).cutSize(), NONE);
            Due.is("7: all edges but S to T, " + n, Graphs.completeBut(n, 0, n - 1).cutSize(), n - 2);
            Due.is("7: all edges but another one, " + n, Graphs.completeBut(n, 0, 1).cutSize(), NONE);
        }
        noneJustWhereTheEndsAreJoined("7: cutSize", DisjointPaths::cutSize);
    }

    private static void promise8() {
        for (int n = 3; n <= 8; n++) {
            Due.is("8: no edge, " + n, new DisjointPaths(n).firstCut(), 0);
            Due.is("8: S to T alone, " + n, Graphs.of(n, 0, n - 1).firstCut(), NONE);
            Due.is("8: all edges, " + n, Graphs.complete(n).firstCut(), NONE);
            Due.is("8: all edges but S to T, " + n, Graphs.completeBut(n, 0, n - 1).firstCut(), (1 << (n - 1)) - 2);
            Due.is("8: of the vertices of a line the first, " + n, Graphs.line(n).firstCut(), 2);
        }
        noneJustWhereTheEndsAreJoined("8: firstCut", DisjointPaths::firstCut);
        DisjointPaths fewer = Graphs.of(8, 0, 1, 0, 2, 1, 6, 2, 6, 6, 7);
        Due.is("8: {6} = 64 before {1, 2} = 6", fewer.firstCut(), 64);
        DisjointPaths crossing = Graphs.of(6, 0, 1, 0, 2, 1, 3, 2, 4, 3, 5, 4, 5);
        Due.is("8: of {1, 2}, {1, 4}, {2, 3}, {3, 4} the first", crossing.firstCut(), 6);
        DisjointPaths lastOnly = Graphs.of(8, 0, 7, 7, 1);
        lastOnly.ends(0, 1);
        Due.is("8: {7}, the greatest vertex", lastOnly.firstCut(), 128);
        DisjointPaths firstOnly = Graphs.of(8, 6, 0, 0, 7);
        firstOnly.ends(6, 7);
        Due.is("8: {0}, the least vertex", firstOnly.firstCut(), 1);
    }

    private static void noneJustWhereTheEndsAreJoined(String name, ToIntFunction<DisjointPaths> question) {
        for (int n = 3; n <= 8; n++) {
            DisjointPaths x = Graphs.ring(n);
            for (int s = 0; s < n; s++) {
                for (int t = 0; t < n; t++) {
                    if (s != t) {
                        x.ends(s, t);
                        String where = name + ", ring of " + n + ", ends " + s + " and " + t;
                        boolean none = question.applyAsInt(x) == NONE;
                        Due.is(where + ": none", none, x.joined(s, t));
                    }
                }
            }
        }
        DisjointPaths x = new DisjointPaths(8);
        for (int on = 0; on < 4; on++) {
            x.edge(0, 7, on % 2);
            Due.is(name + ", the edge comes and goes", question.applyAsInt(x), on % 2 == 0 ? 0 : NONE);
        }
    }

    // Promise 9: NONE if there is no such cut (also if v is S or T). BAD_ARG if v is not 0 to N - 1.

    private static void promise9() {
        refusesWhatIsNoVertex("9: cutWith", DisjointPaths::cutWith);
        for (int n = 3; n <= 8; n++) {
            for (int v = 0; v < n; v++) {
                boolean end = v == 0 || v == n - 1;
                String where = ", vertex " + v + " of " + n;
                Due.is("9: no edge" + where, new DisjointPaths(n).cutWith(v), end ? NONE : 1);
                Due.is("9: S to T alone" + where, Graphs.of(n, 0, n - 1).cutWith(v), NONE);
                Due.is("9: all edges" + where, Graphs.complete(n).cutWith(v), NONE);
                Due.is("9: all but S to T" + where, Graphs.completeBut(n, 0, n - 1).cutWith(v), end ? NONE : n - 2);
                Due.is("9: a line" + where, Graphs.line(n).cutWith(v), end ? NONE : 1);
            }
        }
        DisjointPaths x = Graphs.of(8, 0, 1, 0, 2, 1, 6, 2, 6, 6, 7);
        Due.is("9: a vertex of the least cut", x.cutWith(6), 1);
        Due.is("9: a vertex more than the least cut has", x.cutWith(1), 2);
        Due.is("9: a vertex without an edge", x.cutWith(5), 2);
    }

    // Promise 10: 0 if v is S or T; BAD_ARG if v is not 0 to N - 1

    private static void promise10() {
        refusesWhatIsNoVertex("10: loss", DisjointPaths::loss);
        for (int n = 3; n <= 8; n++) {
            for (int v = 0; v < n; v++) {
                boolean end = v == 0 || v == n - 1;
                String where = ", vertex " + v + " of " + n;
                Due.is("10: no edge" + where, new DisjointPaths(n).loss(v), 0);
                Due.is("10: S to T alone" + where, Graphs.of(n, 0, n - 1).loss(v), 0);
                Due.is("10: all edges" + where, Graphs.complete(n).loss(v), end ? 0 : 1);
                Due.is("10: all but S to T" + where, Graphs.completeBut(n, 0, n - 1).loss(v), end ? 0 : 1);
                Due.is("10: a line" + where, Graphs.line(n).loss(v), end ? 0 : 1);
            }
        }
        lossAtTheEndsIsZero();
        DisjointPaths x = Graphs.of(8, 0, 1, 0, 2, 1, 6, 2, 6, 6, 7);
        Due.is("10: a vertex that all paths have", x.loss(6), 1);
        Due.is("10: a vertex with a way round it", x.loss(1), 0);
        x.edge(0, 7, 1);
        Due.is("10: the same with S and T joined", x.loss(6), 1);
        Due.is("10: the same with S and T joined", x.loss(1), 0);
    }

    private static void lossAtTheEndsIsZero() {
        for (int n = 3; n <= 8; n++) {
            for (int s = 0; s < n; s++) {
                DisjointPaths x = Graphs.complete(n);
                for (int t = 0; t < n; t++) {
                    if (s != t) {
                        x.ends(s, t);
                        Due.is("10: loss of S, " + s + " of " + n, x.loss(s), 0);
                        Due.is("10: loss of T, " + t + " of " + n, x.loss(t), 0);
                    }
                }
            }
        }
    }

    // Promise 11

    private static void promise11() {
        for (int n = 3; n <= 8; n++) {
            Due.is("11: no edge, " + n, new DisjointPaths(n).tightEdges(), 0);
            Due.is("11: S to T alone, " + n, Graphs.of(n, 0, n - 1).tightEdges(), 1);
            Due.is("11: all edges, " + n, Graphs.complete(n).tightEdges(), 2 * n - 3);
            Due.is("11: all edges but S to T, " + n, Graphs.completeBut(n, 0, n - 1).tightEdges(), 2 * n - 4);
            Due.is("11: a line, " + n, Graphs.line(n).tightEdges(), n - 1);
            Due.is("11: a ring, " + n, Graphs.ring(n).tightEdges(), n);
            Due.is("11: edges but no path, " + n, Graphs.of(n, 0, 1).tightEdges(), 0);
        }
        DisjointPaths two = Graphs.of(6, 0, 1, 1, 2, 1, 3, 2, 4, 3, 4, 4, 5);
        Due.is("11: taken away alone, edges with a way round are not tight", two.tightEdges(), 2);
        DisjointPaths joined = Graphs.of(6, 0, 1, 1, 2, 1, 3, 2, 4, 3, 4, 4, 5, 0, 5);
        Due.is("11: and the edge of S and T", joined.tightEdges(), 3);
    }

    // Promise 12

    private static void promise12() {
        for (int n = 3; n <= 8; n++) {
            Due.is("12: no edge, " + n, new DisjointPaths(n).helpfulEdges(), 1);
            Due.is("12: S to T alone, " + n, Graphs.of(n, 0, n - 1).helpfulEdges(), 0);
            Due.is("12: all edges, " + n, Graphs.complete(n).helpfulEdges(), 0);
            Due.is("12: all edges but S to T, " + n, Graphs.completeBut(n, 0, n - 1).helpfulEdges(), 1);
            Due.is("12: all edges but 0 to 1, " + n, Graphs.completeBut(n, 0, 1).helpfulEdges(), 1);
            Due.is("12: a line, " + n, Graphs.line(n).helpfulEdges(), 1);
        }
        for (int n = 4; n <= 8; n++) {
            Due.is("12: all edges but one inside, " + n, Graphs.completeBut(n, 1, 2).helpfulEdges(), 0);
            // From 0 or 1 to n - 2 or n - 1.
            DisjointPaths gap = Graphs.of(n, 0, 1, n - 2, n - 1);
            Due.is("12: over the gap, " + n, gap.helpfulEdges(), 4);
            gap.ends(n - 1, 0);
            Due.is("12: each pair once, turned round, " + n, gap.helpfulEdges(), 4);
            gap.edge(0, n - 1, 1);
            Due.is("12: over the gap, S and T joined, " + n, gap.helpfulEdges(), 3);
        }
    }

    // Promise 13: NONE if there is no path

    private static void promise13() {
        for (int n = 3; n <= 8; n++) {
            Due.is("13: no edge, " + n, new DisjointPaths(n).distance(), NONE);
            Due.is("13: S to T alone, " + n, Graphs.of(n, 0, n - 1).distance(), 1);
            Due.is("13: all edges, " + n, Graphs.complete(n).distance(), 1);
            Due.is("13: all edges but S to T, " + n, Graphs.completeBut(n, 0, n - 1).distance(), 2);
            Due.is("13: through all vertices, " + n, Graphs.line(n).distance(), n - 1);
            for (int gap = 1; gap < n; gap++) {
                DisjointPaths x = Graphs.line(n);
                x.edge(gap - 1, gap, 0);
                Due.is("13: a line with a gap at " + gap + ", " + n, x.distance(), NONE);
                x.edge(0, n - 1, 1);
                Due.is("13: the gap gone round, " + n, x.distance(), 1);
            }
        }
        DisjointPaths alone = Graphs.complete(8);
        for (int v = 0; v < 7; v++) {
            alone.edge(v, 7, 0);
        }
        Due.is("13: all edges but those at T", alone.distance(), NONE);
    }

    // Promise 14: N - 1 if every two vertices have an edge. S and T stay as they are.

    private static void promise14() {
        for (int n = 3; n <= 8; n++) {
            Due.is("14: no edge, " + n, new DisjointPaths(n).strength(), 0);
            Due.is("14: S to T alone, " + n, Graphs.of(n, 0, n - 1).strength(), 0);
            Due.is("14: all edges, " + n, Graphs.complete(n).strength(), n - 1);
            Due.is("14: a line, " + n, Graphs.line(n).strength(), 1);
            for (int u = 0; u < n; u++) {
                for (int v = u + 1; v < n; v++) {
                    Due.is("14: all edges but one, " + n, Graphs.completeBut(n, u, v).strength(), n - 2);
                }
            }
        }
        for (Beginning b : BEGINNINGS) {
            changesNothing("14: strength", b, DisjointPaths::strength);
        }
        strengthIsTheSameForAllEnds();
    }

    private static void strengthIsTheSameForAllEnds() {
        // Two parts, each with all its edges, that have vertex 3 alone in common.
        DisjointPaths x = Graphs.of(7, 0, 1, 0, 2, 1, 2, 0, 3, 1, 3, 2, 3, 3, 4, 3, 5, 3, 6, 4, 5, 4, 6, 5, 6);
        for (int s = 0; s < 7; s++) {
            for (int t = 0; t < 7; t++) {
                if (s != t) {
                    x.ends(s, t);
                    Due.is("14: whatever S and T are", x.strength(), 1);
                    Due.is("14: S stays", x.loss(s), 0);
                    boolean onePart = (s <= 3 && t <= 3) || (s >= 3 && t >= 3);
                    Due.is("14: the paths stay those of S and T", x.paths(), onePart ? 3 : 1);
                }
            }
        }
    }

    // Promise 15: Takes all edges away. Answers how many there were.

    private static void promise15() {
        for (int n = 3; n <= 8; n++) {
            Due.is("15: no edge, " + n, new DisjointPaths(n).clear(), 0);
            Due.is("15: one edge, " + n, Graphs.of(n, n - 1, 0).clear(), 1);
            Due.is("15: all edges but one, " + n, Graphs.completeBut(n, 1, 2).clear(), n * (n - 1) / 2 - 1);
            DisjointPaths x = Graphs.complete(n);
            Due.is("15: all edges, " + n, x.clear(), n * (n - 1) / 2);
            Due.is("15: none is left, " + n, Graphs.edgesOf(x), 0);
            Due.is("15: no path is left, " + n, x.distance(), NONE);
            Due.is("15: cleared again, " + n, x.clear(), 0);
            Due.is("15: an edge can be put again, " + n, x.edge(0, n - 1, 1), 0);
            Due.is("15: it is the only one, " + n, x.clear(), 1);
        }
        for (Beginning b : BEGINNINGS) {
            DisjointPaths cleared = b.make();
            DisjointPaths emptied = b.make();
            cleared.clear();
            State.takeEdgesAway(emptied);
            Due.is("15: S, T and N stay, " + b.name(), State.of(cleared), State.of(emptied));
        }
    }

    // What several promises need

    /** Numbers around the range, the ends of int, and what a shift or a cut to fewer bits takes for a vertex. */
    private static List<Integer> noVertices(int n) {
        int[] candidates = {
            -1, -2, -7, -8, -31, -32, 3, 4, 5, 6, 7, 8, 9, 15, 16, 17, 31, 32, 33, 39, 64, 65, 255, 256, 257,
            1 << 16, (1 << 16) + 1, 1 << 30, GREATEST, GREATEST - 1, LEAST, LEAST + 1, LEAST + 2,
        };
        List<Integer> bad = new ArrayList<>();
        for (int v : candidates) {
            if (v < 0 || v >= n) {
                bad.add(v);
            }
        }
        return bad;
    }

    private interface OfVertex {
        int ask(DisjointPaths x, int v);
    }

    private static void refusesWhatIsNoVertex(String name, OfVertex question) {
        for (Beginning b : BEGINNINGS) {
            for (int bad : noVertices(b.n())) {
                refused(name + "(" + bad + ")", b, x -> question.ask(x, bad));
            }
            for (int good : new int[] {0, 1, b.n() - 1}) {
                boolean isRefused = question.ask(b.make(), good) == BAD_ARG;
                Due.is(name + "(" + good + ") is refused, " + b.name(), isRefused, false);
            }
        }
    }

    private static void refused(String what, Beginning b, ToIntFunction<DisjointPaths> call) {
        DisjointPaths x = b.make();
        Due.is(what + ", " + b.name(), call.applyAsInt(x), BAD_ARG);
        Due.is(what + ", " + b.name() + ", the state afterwards", State.of(x), State.of(b.make()));
    }

    private static void changesNothing(String what, Beginning b, Consumer<DisjointPaths> call) {
        DisjointPaths x = b.make();
        call.accept(x);
        Due.is(what + ", " + b.name() + ", the state afterwards", State.of(x), State.of(b.make()));
    }
}
