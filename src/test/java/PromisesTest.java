import java.util.function.IntSupplier;

/** Each promise on its own: ordinary inputs, the edges that the document names, and wrong inputs. */
public final class PromisesTest {
    private static final int BAD_ARG = -1;
    private static final int NONE = -4;
    private static final int[] FAR_OFF = {-1, -8, 31, 32, 33, 64, 1 << 30, Integer.MIN_VALUE, Integer.MAX_VALUE};

    private static int wrong = 0;

    public static void main(String[] args) {
        constants();
        promise1NewObject();
        promise2Vertices();
        promise3Edge();
        promise3EdgeRefused();
        promise4Joined();
        promise5Ends();
        promise6Paths();
        promise7CutSize();
        promise8FirstCut();
        promise9CutWith();
        promise10Loss();
        promise11TightEdges();
        promise12HelpfulEdges();
        promise13Distance();
        promise14Strength();
        promise15Clear();
        askingChangesNothing();
        lastOf512Calls();
        System.out.println(wrong == 0 ? "all answers are as due" : wrong + " answers are not as due");
        if (wrong != 0) {
            System.exit(1);
        }
    }

    private static void constants() {
        due("BAD_ARG", DisjointPaths.BAD_ARG, BAD_ARG);
        due("NONE", DisjointPaths.NONE, NONE);
    }

    private static void promise1NewObject() {
        for (int n = 3; n <= 8; n++) {
            DisjointPaths x = new DisjointPaths(n);
            due("1: no edge in a new object", edgesOf(x), 0);
            x.edge(0, n - 1, 1);
            due("1: S is 0 and T is N - 1, N = " + n, x.distance(), 1);
            due("1: 0 is an end", x.cutWith(0), NONE);
        }
        DisjointPaths apart = new DisjointPaths(4);
        due("1: cutWith(0), 0 is S", apart.cutWith(0), NONE);
        due("1: cutWith(3), 3 is T", apart.cutWith(3), NONE);
        due("1: cutWith(1)", apart.cutWith(1), 1);
        due("1: cutWith(2)", apart.cutWith(2), 1);
    }

    private static void promise2Vertices() {
        int[] asked = {Integer.MIN_VALUE, -1, 0, 1, 2, 3, 4, 5, 6, 7, 8, 9, 10, 64, Integer.MAX_VALUE};
        int[] due = {3, 3, 3, 3, 3, 3, 4, 5, 6, 7, 8, 8, 8, 8, 8};
        for (int i = 0; i < asked.length; i++) {
            DisjointPaths x = new DisjointPaths(asked[i]);
            due("2: vertices of " + asked[i], x.vertices(), due[i]);
            due("2: the last vertex is one", x.edge(0, due[i] - 1, 1), 0);
            due("2: T is the last vertex", x.distance(), 1);
            due("2: there is none behind it", x.edge(0, due[i], 1), BAD_ARG);
        }
    }

    private static void promise3Edge() {
        DisjointPaths x = new DisjointPaths(8);
        due("3: put a new edge", x.edge(2, 7, 1), 0);
        due("3: put it again", x.edge(2, 7, 1), 1);
        due("3: put it again from the other side", x.edge(7, 2, 1), 1);
        due("3: on is any number but 0", x.edge(2, 7, Integer.MIN_VALUE), 1);
        due("3: it is still there", x.joined(2, 7), true);
        due("3: only one edge", edgesOf(x), 1);
        due("3: take it away from the other side", x.edge(7, 2, 0), 1);
        due("3: take it away again", x.edge(2, 7, 0), 0);
        due("3: it is gone", x.joined(2, 7), false);
        int[] on = {-1, 2, 256, 1 << 31, Integer.MAX_VALUE};
        for (int i = 0; i < on.length; i++) {
            due("3: on = " + on[i], x.edge(i, i + 1, on[i]), 0);
            due("3: put with on = " + on[i], x.joined(i, i + 1), true);
        }
    }

    private static void promise3EdgeRefused() {
        DisjointPaths x = ring(5);
        for (int v = 0; v < 5; v++) {
            due("3: edge of a vertex with itself", x.edge(v, v, 1), BAD_ARG);
            due("3: and taken away", x.edge(v, v, 0), BAD_ARG);
            due("3: the vertex behind the last", x.edge(v, 5, 1), BAD_ARG);
            due("3: the same turned round", x.edge(5, v, 0), BAD_ARG);
            for (int far : FAR_OFF) {
                due("3: edge(" + v + ", " + far + ")", x.edge(v, far, 1), BAD_ARG);
                due("3: edge(" + far + ", " + v + ")", x.edge(far, v, 0), BAD_ARG);
                due("3: edge(" + far + ", " + far + ")", x.edge(far, far, 1), BAD_ARG);
            }
        }
        due("3: refused calls change nothing", edgesOf(x), 5);
        due("3: refused calls leave the paths", x.paths(), 2);
    }

    private static void promise4Joined() {
        DisjointPaths x = new DisjointPaths(5);
        x.edge(1, 3, 1);
        for (int u = 0; u < 5; u++) {
            for (int v = 0; v < 5; v++) {
                due("4: joined(" + u + ", " + v + ")", x.joined(u, v), u + v == 4 && (u == 1 || u == 3));
            }
        }
        due("4: behind the last", x.joined(1, 5), false);
        for (int far : FAR_OFF) {
            due("4: joined(1, " + far + ")", x.joined(1, far), false);
            due("4: joined(" + far + ", 3)", x.joined(far, 3), false);
            due("4: joined(" + far + ", " + far + ")", x.joined(far, far), false);
        }
        due("4: 1 + 32 is not 1", x.joined(3, 33), false);
    }

    private static void promise5Ends() {
        DisjointPaths x = line(5);
        due("5: before", x.distance(), 4);
        due("5: ends(1, 3)", x.ends(1, 3), 0);
        due("5: S is 1 and T is 3", x.distance(), 2);
        due("5: 1 is an end", x.cutWith(1), NONE);
        due("5: 3 is an end", x.cutWith(3), NONE);
        due("5: 0 is none now", x.cutWith(0), 2);
        due("5: the same", x.ends(2, 2), BAD_ARG);
        due("5: t behind the last", x.ends(0, 5), BAD_ARG);
        due("5: s behind the last", x.ends(5, 0), BAD_ARG);
        for (int far : FAR_OFF) {
            due("5: ends(0, " + far + ")", x.ends(0, far), BAD_ARG);
            due("5: ends(" + far + ", 4)", x.ends(far, 4), BAD_ARG);
            due("5: ends(" + far + ", " + far + ")", x.ends(far, far), BAD_ARG);
        }
        due("5: refused calls leave S and T", x.firstCut(), 4);
        due("5: turned round", x.ends(3, 1), 0);
        due("5: answers the same", x.firstCut(), 4);
        due("5: the ends that it has", x.ends(3, 1), 0);
    }

    private static void promise6Paths() {
        due("6: no edge", new DisjointPaths(8).paths(), 0);
        due("6: a line", line(8).paths(), 1);
        due("6: a ring", ring(8).paths(), 2);
        for (int n = 3; n <= 8; n++) {
            due("6: all edges, N = " + n, complete(n).paths(), n - 1);
            DisjointPaths x = complete(n);
            x.edge(0, n - 1, 0);
            due("6: all edges but S to T, N = " + n, x.paths(), n - 2);
        }
        DisjointPaths direct = new DisjointPaths(5);
        direct.edge(0, 4, 1);
        due("6: the direct path counts once", direct.paths(), 1);
        DisjointPaths waist = graph(7, 0, 1, 0, 2, 1, 3, 2, 3, 3, 4, 3, 5, 4, 6, 5, 6);
        due("6: two ways through one vertex", waist.paths(), 1);
        // The shortest path 0 1 4 7 stands in the way of both others.
        DisjointPaths crossed = graph(8, 0, 1, 1, 4, 4, 7, 0, 3, 3, 4, 1, 5, 5, 7);
        due("6: not by the shortest path first", crossed.paths(), 2);
    }

    private static void promise7CutSize() {
        due("7: no edge", new DisjointPaths(4).cutSize(), 0);
        due("7: a line", line(6).cutSize(), 1);
        due("7: a ring whose ends have an edge", ring(6).cutSize(), NONE);
        DisjointPaths x = ring(6);
        x.ends(0, 3);
        due("7: a ring", x.cutSize(), 2);
        DisjointPaths full = complete(8);
        due("7: all edges", full.cutSize(), NONE);
        full.edge(0, 7, 0);
        due("7: all edges but S to T", full.cutSize(), 6);
        DisjointPaths direct = new DisjointPaths(3);
        direct.edge(0, 2, 1);
        due("7: the direct edge alone", direct.cutSize(), NONE);
    }

    private static void promise8FirstCut() {
        due("8: the empty cut", new DisjointPaths(4).firstCut(), 0);
        due("8: the least of 2, 4, 8, 16", line(6).firstCut(), 2);
        DisjointPaths turned = line(6);
        turned.ends(5, 0);
        due("8: the least number, whatever end is S", turned.firstCut(), 2);
        due("8: the ends have an edge", ring(6).firstCut(), NONE);
        DisjointPaths full = complete(8);
        full.edge(0, 7, 0);
        due("8: all vertices but S and T", full.firstCut(), 126);
        // {1, 2, 3} = 14 is the lesser number, {6} = 64 has fewer vertices.
        DisjointPaths funnel = graph(8, 0, 1, 0, 2, 0, 3, 1, 6, 2, 6, 3, 6, 6, 7);
        due("8: fewer vertices go before the lesser number", funnel.firstCut(), 64);
        DisjointPaths inner = graph(4, 2, 0, 0, 3, 3, 1);
        inner.ends(2, 1);
        due("8: with vertex 0", inner.firstCut(), 1);
    }

    private static void promise9CutWith() {
        DisjointPaths x = graph(8, 0, 1, 0, 2, 0, 3, 1, 6, 2, 6, 3, 6, 6, 7);
        due("9: in the least cut", x.cutWith(6), 1);
        due("9: one more than is needed", x.cutWith(1), 2);
        due("9: without an edge", x.cutWith(4), 2);
        due("9: S", x.cutWith(0), NONE);
        due("9: T", x.cutWith(7), NONE);
        due("9: no cut is needed", new DisjointPaths(3).cutWith(1), 1);
        refusesVertices("9: cutWith", x, 8, x::cutWith);
        x.edge(0, 7, 1);
        due("9: S and T have an edge", x.cutWith(6), NONE);
        due("9: S, and S and T have an edge", x.cutWith(0), NONE);
        refusesVertices("9: cutWith with S and T joined", x, 8, x::cutWith);
        DisjointPaths small = new DisjointPaths(5);
        refusesVertices("9: cutWith", small, 5, small::cutWith);
    }

    private static void promise10Loss() {
        DisjointPaths x = graph(8, 0, 1, 0, 2, 0, 3, 1, 6, 2, 6, 3, 6, 6, 7);
        due("10: the vertex of all paths", x.loss(6), 1);
        due("10: one that can be gone round", x.loss(1), 0);
        due("10: without an edge", x.loss(4), 0);
        due("10: S", x.loss(0), 0);
        due("10: T", x.loss(7), 0);
        refusesVertices("10: loss", x, 8, x::loss);
        DisjointPaths full = complete(5);
        for (int v = 0; v < 5; v++) {
            due("10: all edges, vertex " + v, full.loss(v), v == 0 || v == 4 ? 0 : 1);
        }
        full.ends(1, 3);
        due("10: 0 is no end now", full.loss(0), 1);
        due("10: 1 is one", full.loss(1), 0);
        due("10: 3 is one", full.loss(3), 0);
        refusesVertices("10: loss", full, 5, full::loss);
    }

    private static void promise11TightEdges() {
        due("11: no edge", new DisjointPaths(5).tightEdges(), 0);
        due("11: a line", line(6).tightEdges(), 5);
        due("11: a ring", ring(6).tightEdges(), 6);
        due("11: all edges of three vertices", complete(3).tightEdges(), 3);
        due("11: edges at S and T alone", complete(5).tightEdges(), 7);
        DisjointPaths off = graph(5, 0, 1, 1, 4, 1, 2, 2, 3);
        due("11: an edge off the path is not tight", off.tightEdges(), 2);
        DisjointPaths twice = graph(6, 0, 1, 1, 2, 1, 3, 2, 4, 3, 4, 4, 5);
        due("11: edges that stand in for each other", twice.tightEdges(), 2);
    }

    private static void promise12HelpfulEdges() {
        due("12: all edges", complete(8).helpfulEdges(), 0);
        due("12: no edge, only S to T helps", new DisjointPaths(5).helpfulEdges(), 1);
        DisjointPaths gap = graph(6, 0, 1, 4, 5);
        // 0 to 4, 0 to 5, 1 to 4 and 1 to 5.
        due("12: any edge over the gap", gap.helpfulEdges(), 4);
        gap.ends(5, 0);
        due("12: pairs count once, whatever end is S", gap.helpfulEdges(), 4);
        DisjointPaths joined = graph(3, 0, 2);
        due("12: S and T joined, no one edge helps", joined.helpfulEdges(), 0);
    }

    private static void promise13Distance() {
        due("13: no path", new DisjointPaths(5).distance(), NONE);
        for (int n = 3; n <= 8; n++) {
            due("13: a line of " + n, line(n).distance(), n - 1);
            due("13: a ring of " + n, ring(n).distance(), 1);
        }
        DisjointPaths x = ring(8);
        x.ends(6, 2);
        due("13: half of the ring", x.distance(), 4);
        x.ends(1, 6);
        due("13: the shorter side", x.distance(), 3);
        due("13: S and T in different parts", graph(6, 0, 1, 1, 2, 3, 4, 4, 5).distance(), NONE);
    }

    private static void promise14Strength() {
        for (int n = 3; n <= 8; n++) {
            due("14: all edges, N = " + n, complete(n).strength(), n - 1);
            due("14: no edge, N = " + n, new DisjointPaths(n).strength(), 0);
            due("14: a line, N = " + n, line(n).strength(), 1);
            DisjointPaths but = complete(n);
            but.edge(1, 2, 0);
            due("14: all edges but one, N = " + n, but.strength(), n - 2);
        }
        due("14: a ring", ring(8).strength(), 2);
        DisjointPaths pendant = complete(6);
        for (int v = 1; v < 5; v++) {
            pendant.edge(v, 5, 0);
        }
        pendant.ends(1, 2);
        due("14: the weakest pair counts", pendant.strength(), 1);
        due("14: S and T stay", pendant.paths(), 4);
        due("14: S stays", pendant.cutWith(1), NONE);
        due("14: the edges stay", edgesOf(pendant), 11);
    }

    private static void promise15Clear() {
        due("15: no edge", new DisjointPaths(8).clear(), 0);
        DisjointPaths x = complete(8);
        x.ends(2, 5);
        due("15: all edges", x.clear(), 28);
        due("15: no edge is left", edgesOf(x), 0);
        due("15: a second time", x.clear(), 0);
        x.edge(2, 5, 1);
        due("15: S and T stay", x.distance(), 1);
        due("15: one edge", x.clear(), 1);
        due("15: N stays", x.vertices(), 8);
    }

    private static void askingChangesNothing() {
        DisjointPaths x = graph(8, 0, 1, 1, 4, 4, 7, 0, 3, 3, 4, 1, 5, 5, 7, 2, 6);
        x.ends(7, 0);
        IntSupplier[] questions = {
            x::vertices, x::paths, x::cutSize, x::firstCut, () -> x.cutWith(4), () -> x.loss(4),
            x::tightEdges, x::helpfulEdges, x::distance, x::strength,
        };
        int[] first = new int[questions.length];
        for (int i = 0; i < questions.length; i++) {
            first[i] = questions[i].getAsInt();
        }
        for (int i = 0; i < questions.length; i++) {
            due("question " + i + " asked again", questions[i].getAsInt(), first[i]);
        }
        due("the edges are as before", edgesOf(x), 8);
    }

    private static void lastOf512Calls() {
        DisjointPaths x = new DisjointPaths(8);
        for (int call = 1; call < 512; call++) {
            x.edge(0, 7, call % 2);
        }
        due("the 512th call", x.paths(), 1);
    }

    private interface OfVertex {
        int ask(int v);
    }

    private static void refusesVertices(String call, DisjointPaths x, int n, OfVertex question) {
        int edges = edgesOf(x);
        due(call + "(" + n + ")", question.ask(n), BAD_ARG);
        for (int far : FAR_OFF) {
            due(call + "(" + far + ")", question.ask(far), BAD_ARG);
        }
        due(call + " refused changes nothing", edgesOf(x), edges);
    }

    private static DisjointPaths graph(int n, int... pairs) {
        DisjointPaths x = new DisjointPaths(n);
        for (int i = 0; i < pairs.length; i += 2) {
            x.edge(pairs[i], pairs[i + 1], 1);
        }
        return x;
    }

    private static DisjointPaths line(int n) {
        DisjointPaths x = new DisjointPaths(n);
        for (int v = 1; v < n; v++) {
            x.edge(v - 1, v, 1);
        }
        return x;
    }

    private static DisjointPaths ring(int n) {
        DisjointPaths x = line(n);
        x.edge(n - 1, 0, 1);
        return x;
    }

    private static DisjointPaths complete(int n) {
        DisjointPaths x = new DisjointPaths(n);
        for (int u = 0; u < n; u++) {
            for (int v = u + 1; v < n; v++) {
                x.edge(u, v, 1);
            }
        }
        return x;
    }

    private static int edgesOf(DisjointPaths x) {
        int edges = 0;
        for (int u = 0; u < 8; u++) {
            for (int v = u + 1; v < 8; v++) {
                edges += x.joined(u, v) ? 1 : 0;
            }
        }
        return edges;
    }

    private static void due(String what, boolean got, boolean want) {
        due(what, got ? 1 : 0, want ? 1 : 0);
    }

    private static void due(String what, int got, int want) {
        if (got != want) {
            wrong++;
            System.out.println(what + ": answered " + got + ", due is " + want);
        }
    }
}
