/** What an object holds, as its answers tell it. */
final class State {
    private State() {
    }

    /** Some 180 calls. The edges are gone afterwards, for only so are the ends seen whatever the graph is. */
    static String of(DisjointPaths x) {
        int n = x.vertices();
        StringBuilder text = new StringBuilder("N " + n + ", edges");
        for (int u = 0; u < n; u++) {
            for (int v = 0; v < n; v++) {
                text.append(x.joined(u, v) ? " " + u + "-" + v : "");
            }
        }
        text.append(", paths ").append(x.paths());
        text.append(", first cut ").append(x.firstCut());
        text.append(", distance ").append(x.distance());
        takeEdgesAway(x);
        text.append(", ends").append(ends(x));
        return text.append(", edges that were not seen ").append(x.clear()).toString();
    }

    // Not by clear(), so that what that one does to the ends can be seen too.
    static void takeEdgesAway(DisjointPaths x) {
        int n = x.vertices();
        for (int u = 0; u < n; u++) {
            for (int v = u + 1; v < n; v++) {
                x.edge(u, v, 0);
            }
        }
    }

    private static String ends(DisjointPaths x) {
        int n = x.vertices();
        StringBuilder ends = new StringBuilder();
        for (int u = 0; u < n; u++) {
            for (int v = u + 1; v < n; v++) {
                x.edge(u, v, 1);
                ends.append(x.distance() == 1 ? " " + u + "-" + v : "");
                x.edge(u, v, 0);
            }
        }
        return ends.toString();
    }
}
