import java.util.function.IntSupplier;

/** Each promise on its own: ordinary inputs, the edges that the document names, and wrong inputs. */
public final class PromisesTest {
    private static final int BAD_ARG = -1;
    private static final int NONE = -4;
    private static final int[] FAR_OFF = {-1, -8, 31, 32, 33, 64, 1 << 30, Integer.MIN_VALUE, Integer.MAX_VALUE};

    public static void main(String[] args) {
        constants();
        promise1NewObject();
        promise2Vertices();
        promise3Edge();
        promise3EdgeRefused();
        promise4Joined();
        promise5Ends();
        promise6Paths();
        promise7CutSize();
        promise8FirstCut();
        promise9CutWith();
        promise10Loss();
        promise11TightEdges();
        promise12HelpfulEdges();
        promise13Distance();
        promise14Strength();
        promise15Clear();
        askingChangesNothing();
        lastOf512Calls();
        Due.end();
    }

    private static void constants() {
        Due.is("BAD_ARG", DisjointPaths.BAD_ARG, BAD_ARG);
        Due.is("NONE", DisjointPaths.NONE, NONE);
    }

    private static void promise1NewObject() {
        for (int n = 3; n <= 8; n++) {
            DisjointPaths x = new DisjointPaths(n);
            Due.is("1: no edge in a new object", Graphs.edgesOf(x), 0);
            x.edge(0, n - 1, 1);
            Due.is("1: S is 0 and T is N - 1, N = " + n, x.distance(), 1);
            Due.is("1: 0 is an end", x.cutWith(0), NONE);
        }
        DisjointPaths apart = new DisjointPaths(4);
        Due.is("1: cutWith(0), 0 is S", apart.cutWith(0), NONE);
        Due.is("1: cutWith(3), 3 is T", apart.cutWith(3), NONE);
        Due.is("1: cutWith(1)", apart.cutWith(1), 1);
        Due.is("1: cutWith(2)", apart.cutWith(2), 1);
    }

    private static void promise2Vertices() {
        int[] asked = {Integer.MIN_VALUE, -1, 0, 1, 2, 3, 4, 5, 6, 7, 8, 9, 10, 64, Integer.MAX_VALUE};
        int[] due = {3, 3, 3, 3, 3, 3, 4, 5, 6, 7, 8, 8, 8, 8, 8};
        for (int i = 0; i < asked.length; i++) {
            DisjointPaths x = new DisjointPaths(asked[i]);
            Due.is("2: vertices of " + asked[i], x.vertices(), due[i]);
            Due.is("2: the last vertex is one", x.edge(0, due[i] - 1, 1), 0);
            Due.is("2: T is the last vertex", x.distance(), 1);
            Due.is("2: there is none behind it", x.edge(0, due[i], 1), BAD_ARG);
        }
    }

    private static void promise3Edge() {
        DisjointPaths x = new DisjointPaths(8);
        Due.is("3: put a new edge", x.edge(2, 7, 1), 0);
        Due.is("3: put it again", x.edge(2, 7, 1), 1);
        Due.is("3: put it again from the other side", x.edge(7, 2, 1), 1);
        Due.is("3: on is any number but 0", x.edge(2, 7, Integer.MIN_VALUE), 1);
        Due.is("3: it is still there", x.joined(2, 7), true);
        Due.is("3: only one edge", Graphs.edgesOf(x), 1);
        Due.is("3: take it away from the other side", x.edge(7, 2, 0), 1);
        Due.is("3: take it away again", x.edge(2, 7, 0), 0);
        Due.is("3: it is gone", x.joined(2, 7), false);
        int[] on = {-1, 2, 256, 1 << 31, Integer.MAX_VALUE};
        for (int i = 0; i < on.length; i++) {
            Due.is("3: on = " + on[i], x.edge(i, i + 1, on[i]), 0);
            Due.is("3: put with on = " + on[i], x.joined(i, i + 1), true);
        }
    }

    private static void promise3EdgeRefused() {
        DisjointPaths x = Graphs.ring(5);
        for (int v = 0; v < 5; v++) {
            Due.is("3: edge of a vertex with itself", x.edge(v, v, 1), BAD_ARG);
            Due.is("3: and taken away", x.edge(v, v, 0), BAD_ARG);
            Due.is("3: the vertex behind the last", x.edge(v, 5, 1), BAD_ARG);
            Due.is("3: the same turned round", x.edge(5, v, 0), BAD_ARG);
            for (int far : FAR_OFF) {
                Due.is("3: edge(" + v + ", " + far + ")", x.edge(v, far, 1), BAD_ARG);
                Due.is("3: edge(" + far + ", " + v + ")", x.edge(far, v, 0), BAD_ARG);
                Due.is("3: edge(" + far + ", " + far + ")", x.edge(far, far, 1), BAD_ARG);
            }
        }
        Due.is("3: refused calls change nothing", Graphs.edgesOf(x), 5);
        Due.is("3: refused calls leave the paths", x.paths(), 2);
    }

    private static void promise4Joined() {
        DisjointPaths x = new DisjointPaths(5);
        x.edge(1, 3, 1);
        for (int u = 0; u < 5; u++) {
            for (int v = 0; v < 5; v++) {
                Due.is("4: joined(" + u + ", " + v + ")", x.joined(u, v), u + v == 4 && (u == 1 || u == 3));
            }
        }
        Due.is("4: behind the last", x.joined(1, 5), false);
        for (int far : FAR_OFF) {
            Due.is("4: joined(1, " + far + ")", x.joined(1, far), false);
            Due.is("4: joined(" + far + ", 3)", x.joined(far, 3), false);
            Due.is("4: joined(" + far + ", " + far + ")", x.joined(far, far), false);
        }
        Due.is("4: 1 + 32 is not 1", x.joined(3, 33), false);
    }

    private static void promise5Ends() {
        DisjointPaths x = Graphs.line(5);
        Due.is("5: before", x.distance(), 4);
        Due.is("5: ends(1, 3)", x.ends(1, 3), 0);
        Due.is("5: S is 1 and T is 3", x.distance(), 2);
        Due.is("5: 1 is an end", x.cutWith(1), NONE);
        Due.is("5: 3 is an end", x.cutWith(3), NONE);
        Due.is("5: 0 is none now", x.cutWith(0), 2);
        Due.is("5: the same", x.ends(2, 2), BAD_ARG);
        Due.is("5: t behind the last", x.ends(0, 5), BAD_ARG);
        Due.is("5: s behind the last", x.ends(5, 0), BAD_ARG);
        for (int far : FAR_OFF) {
            Due.is("5: ends(0, " + far + ")", x.ends(0, far), BAD_ARG);
            Due.is("5: ends(" + far + ", 4)", x.ends(far, 4), BAD_ARG);
            Due.is("5: ends(" + far + ", " + far + ")", x.ends(far, far), BAD_ARG);
        }
        Due.is("5: refused calls leave S and T", x.firstCut(), 4);
        Due.is("5: turned round", x.ends(3, 1), 0);
        Due.is("5: answers the same", x.firstCut(), 4);
        Due.is("5: the ends that it has", x.ends(3, 1), 0);
    }

    private static void promise6Paths() {
        Due.is("6: no edge", new DisjointPaths(8).paths(), 0);
        Due.is("6: a line", Graphs.line(8).paths(), 1);
        Due.is("6: a ring", Graphs.ring(8).paths(), 2);
        for (int n = 3; n <= 8; n++) {
            Due.is("6: all edges, N = " + n, Graphs.complete(n).paths(), n - 1);
            DisjointPaths x = Graphs.complete(n);
            x.edge(0, n - 1, 0);
            Due.is("6: all edges but S to T, N = " + n, x.paths(), n - 2);
        }
        DisjointPaths direct = new DisjointPaths(5);
        direct.edge(0, 4, 1);
        Due.is("6: the direct path counts once", direct.paths(), 1);
        DisjointPaths waist = Graphs.of(7, 0, 1, 0, 2, 1, 3, 2, 3, 3, 4, 3, 5, 4, 6, 5, 6);
        Due.is("6: two ways through one vertex", waist.paths(), 1);
        // The shortest path 0 1 4 7 stands in the way of both others.
        DisjointPaths crossed = Graphs.of(8, 0, 1, 1, 4, 4, 7, 0, 3, 3, 4, 1, 5, 5, 7);
        Due.is("6: not by the shortest path first", crossed.paths(), 2);
    }

    private static void promise7CutSize() {
        Due.is("7: no edge", new DisjointPaths(4).cutSize(), 0);
        Due.is("7: a line", Graphs.line(6).cutSize(), 1);
        Due.is("7: a ring whose ends have an edge", Graphs.ring(6).cutSize(), NONE);
        DisjointPaths x = Graphs.ring(6);
        x.ends(0, 3);
        Due.is("7: a ring", x.cutSize(), 2);
        DisjointPaths full = Graphs.complete(8);
        Due.is("7: all edges", full.cutSize(), NONE);
        full.edge(0, 7, 0);
        Due.is("7: all edges but S to T", full.cutSize(), 6);
        DisjointPaths direct = new DisjointPaths(3);
        direct.edge(0, 2, 1);
        Due.is("7: the direct edge alone", direct.cutSize(), NONE);
    }

    private static void promise8FirstCut() {
        Due.is("8: the empty cut", new DisjointPaths(4).firstCut(), 0);
        Due.is("8: the least of 2, 4, 8, 16", Graphs.line(6).firstCut(), 2);
        DisjointPaths turned = Graphs.line(6);
        turned.ends(5, 0);
        Due.is("8: the least number, whatever end is S", turned.firstCut(), 2);
        Due.is("8: the ends have an edge", Graphs.ring(6).firstCut(), NONE);
        DisjointPaths full = Graphs.complete(8);
        full.edge(0, 7, 0);
        Due.is("8: all vertices but S and T", full.firstCut(), 126);
        // {1, 2, 3} = 14 is the lesser number, {6} = 64 has fewer vertices.
        DisjointPaths funnel = Graphs.of(8, 0, 1, 0, 2, 0, 3, 1, 6, 2, 6, 3, 6, 6, 7);
        Due.is("8: fewer vertices go before the lesser number", funnel.firstCut(), 64);
        DisjointPaths inner = Graphs.of(4, 2, 0, 0, 3, 3, 1);
        inner.ends(2, 1);
        Due.is("8: with vertex 0", inner.firstCut(), 1);
    }

    private static void promise9CutWith() {
        DisjointPaths x = Graphs.of(8, 0, 1, 0, 2, 0, 3, 1, 6, 2, 6, 3, 6, 6, 7);
        Due.is("9: in the least cut", x.cutWith(6), 1);
        Due.is("9: one more than is needed", x.cutWith(1), 2);
        Due.is("9: without an edge", x.cutWith(4), 2);
        Due.is("9: S", x.cutWith(0), NONE);
        Due.is("9: T", x.cutWith(7), NONE);
        Due.is("9: no cut is needed", new DisjointPaths(3).cutWith(1), 1);
        refusesVertices("9: cutWith", x, 8, x::cutWith);
        x.edge(0, 7, 1);
        Due.is("9: S and T have an edge", x.cutWith(6), NONE);
        Due.is("9: S, and S and T have an edge", x.cutWith(0), NONE);
        refusesVertices("9: cutWith with S and T joined", x, 8, x::cutWith);
        DisjointPaths small = new DisjointPaths(5);
        refusesVertices("9: cutWith", small, 5, small::cutWith);
    }

    private static void promise10Loss() {
        DisjointPaths x = Graphs.of(8, 0, 1, 0, 2, 0, 3, 1, 6, 2, 6, 3, 6, 6, 7);
        Due.is("10: the vertex of all paths", x.loss(6), 1);
        Due.is("10: one that can be gone round", x.loss(1), 0);
        Due.is("10: without an edge", x.loss(4), 0);
        Due.is("10: S", x.loss(0), 0);
        Due.is("10: T", x.loss(7), 0);
        refusesVertices("10: loss", x, 8, x::loss);
        DisjointPaths full = Graphs.complete(5);
        for (int v = 0; v < 5; v++) {
            Due.is("10: all edges, vertex " + v, full.loss(v), v == 0 || v == 4 ? 0 : 1);
        }
        full.ends(1, 3);
        Due.is("10: 0 is no end now", full.loss(0), 1);
        Due.is("10: 1 is one", full.loss(1), 0);
        Due.is("10: 3 is one", full.loss(3), 0);
        refusesVertices("10: loss", full, 5, full::loss);
    }

    private static void promise11TightEdges() {
        Due.is("11: no edge", new DisjointPaths(5).tightEdges(), 0);
        Due.is("11: a line", Graphs.line(6).tightEdges(), 5);
        Due.is("11: a ring", Graphs.ring(6).tightEdges(), 6);
        Due.is("11: all edges of three vertices", Graphs.complete(3).tightEdges(), 3);
        Due.is("11: edges at S and T alone", Graphs.complete(5).tightEdges(), 7);
        DisjointPaths off = Graphs.of(5, 0, 1, 1, 4, 1, 2, 2, 3);
        Due.is("11: an edge off the path is not tight", off.tightEdges(), 2);
        DisjointPaths twice = Graphs.of(6, 0, 1, 1, 2, 1, 3, 2, 4, 3, 4, 4, 5);
        Due.is("11: edges that stand in for each other", twice.tightEdges(), 2);
    }

    private static void promise12HelpfulEdges() {
        Due.is("12: all edges", Graphs.complete(8).helpfulEdges(), 0);
        Due.is("12: no edge, only S to T helps", new DisjointPaths(5).helpfulEdges(), 1);
        DisjointPaths gap = Graphs.of(6, 0, 1, 4, 5);
        // 0 to 4, 0 to 5, 1 to 4 and 1 to 5.
        Due.is("12: any edge over the gap", gap.helpfulEdges(), 4);
        gap.ends(5, 0);
        Due.is("12: pairs count once, whatever end is S", gap.helpfulEdges(), 4);
        DisjointPaths joined = Graphs.of(3, 0, 2);
        Due.is("12: S and T joined, no one edge helps", joined.helpfulEdges(), 0);
    }

    private static void promise13Distance() {
        Due.is("13: no path", new DisjointPaths(5).distance(), NONE);
        for (int n = 3; n <= 8; n++) {
            Due.is("13: a line of " + n, Graphs.line(n).distance(), n - 1);
            Due.is("13: a ring of " + n, Graphs.ring(n).distance(), 1);
        }
        DisjointPaths x = Graphs.ring(8);
        x.ends(6, 2);
        Due.is("13: half of the ring", x.distance(), 4);
        x.ends(1, 6);
        Due.is("13: the shorter side", x.distance(), 3);
        Due.is("13: S and T in different parts", Graphs.of(6, 0, 1, 1, 2, 3, 4, 4, 5).distance(), NONE);
    }

    private static void promise14Strength() {
        for (int n = 3; n <= 8; n++) {
            Due.is("14: all edges, N = " + n, Graphs.complete(n).strength(), n - 1);
            Due.is("14: no edge, N = " + n, new DisjointPaths(n).strength(), 0);
            Due.is("14: a line, N = " + n, Graphs.line(n).strength(), 1);
            DisjointPaths but = Graphs.complete(n);
            but.edge(1, 2, 0);
            Due.is("14: all edges but one, N = " + n, but.strength(), n - 2);
        }
        Due.is("14: a ring", Graphs.ring(8).strength(), 2);
        DisjointPaths pendant = Graphs.complete(6);
        for (int v = 1; v < 5; v++) {
            pendant.edge(v, 5, 0);
        }
        pendant.ends(1, 2);
        Due.is("14: the weakest pair counts", pendant.strength(), 1);
        Due.is("14: S and T stay", pendant.paths(), 4);
        Due.is("14: S stays", pendant.cutWith(1), NONE);
        Due.is("14: the edges stay", Graphs.edgesOf(pendant), 11);
    }

    private static void promise15Clear() {
        Due.is("15: no edge", new DisjointPaths(8).clear(), 0);
        DisjointPaths x = Graphs.complete(8);
        x.ends(2, 5);
        Due.is("15: all edges", x.clear(), 28);
        Due.is("15: no edge is left", Graphs.edgesOf(x), 0);
        Due.is("15: a second time", x.clear(), 0);
        x.edge(2, 5, 1);
        Due.is("15: S and T stay", x.distance(), 1);
        Due.is("15: one edge", x.clear(), 1);
        Due.is("15: N stays", x.vertices(), 8);
    }

    private static void askingChangesNothing() {
        DisjointPaths x = Graphs.of(8, 0, 1, 1, 4, 4, 7, 0, 3, 3, 4, 1, 5, 5, 7, 2, 6);
        x.ends(7, 0);
        IntSupplier[] questions = {
            x::vertices, x::paths, x::cutSize, x::firstCut, () -> x.cutWith(4), () -> x.loss(4),
            x::tightEdges, x::helpfulEdges, x::distance, x::strength,
        };
        int[] first = new int[questions.length];
        for (int i = 0; i < questions.length; i++) {
            first[i] = questions[i].getAsInt();
        }
        for (int i = 0; i < questions.length; i++) {
            Due.is("question " + i + " asked again", questions[i].getAsInt(), first[i]);
        }
        Due.is("the edges are as before", Graphs.edgesOf(x), 8);
    }

    private static void lastOf512Calls() {
        DisjointPaths x = new DisjointPaths(8);
        for (int call = 1; call < 512; call++) {
            x.edge(0, 7, call % 2);
        }
        Due.is("the 512th call", x.paths(), 1);
    }

    private interface OfVertex {
        int ask(int v);
    }

    private static void refusesVertices(String call, DisjointPaths x, int n, OfVertex question) {
        int edges = Graphs.edgesOf(x);
        Due.is(call + "(" + n + ")", question.ask(n), BAD_ARG);
        for (int far : FAR_OFF) {
            Due.is(call + "(" + far + ")", question.ask(far), BAD_ARG);
        }
        Due.is(call + " refused changes nothing", Graphs.edgesOf(x), edges);
    }
}
