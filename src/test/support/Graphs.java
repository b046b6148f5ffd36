/** Objects with the graphs that the tests use over and over. */
final class Graphs {
    private Graphs() {
    }

    static DisjointPaths of(int n, int... pairs) {
        DisjointPaths x = new DisjointPaths(n);
        for (int i = 0; i < pairs.length; i += 2) {
            x.edge(pairs[i], pairs[i + 1], 1);
        }
        return x;
    }

    static DisjointPaths line(int n) {
        DisjointPaths x = new DisjointPaths(n);
        for (int v = 1; v < n; v++) {
            x.edge(v - 1, v, 1);
        }
        return x;
    }

    static DisjointPaths ring(int n) {
        DisjointPaths x = line(n);
        x.edge(n - 1, 0, 1);
        return x;
    }

    static DisjointPaths complete(int n) {
        DisjointPaths x = new DisjointPaths(n);
        for (int u = 0; u < n; u++) {
            for (int v = u + 1; v < n; v++) {
                x.edge(u, v, 1);
            }
        }
        return x;
    }

    static DisjointPaths completeBut(int n, int u, int v) {
        DisjointPaths x = complete(n);
        x.edge(u, v, 0);
        return x;
    }

    static int edgesOf(DisjointPaths x) {
        int edges = 0;
        for (int u = 0; u < 8; u++) {
            for (int v = u + 1; v < 8; v++) {
                edges += x.joined(u, v) ? 1 : 0;
            }
        }
        return edges;
    }
}
