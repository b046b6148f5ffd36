import java.util.ArrayList;
import java.util.List;
import java.util.function.Supplier;

/** A state to begin a test with. Each call of make answers a new object, so that two can be compared. */
record Beginning(String name, int n, Supplier<DisjointPaths> maker) {
    DisjointPaths make() {
        return maker.get();
    }

    static List<Beginning> all() {
        List<Beginning> all = new ArrayList<>();
        for (int n = 3; n <= 8; n++) {
            addForSize(all, n);
        }
        int[] pairs = {0, 1, 1, 4, 4, 6, 0, 3, 3, 4, 1, 5, 5, 6, 2, 6};
        all.add(new Beginning("mixed, ends 5 and 1 joined", 7, () -> withEnds(Graphs.of(7, pairs), 5, 1)));
        all.add(new Beginning("mixed, ends 5 and 3 not joined", 7, () -> withEnds(Graphs.of(7, pairs), 5, 3)));
        return all;
    }

    private static void addForSize(List<Beginning> all, int n) {
        all.add(new Beginning("no edge, " + n, n, () -> new DisjointPaths(n)));
        all.add(new Beginning("all edges, " + n, n, () -> Graphs.complete(n)));
        all.add(new Beginning("all edges but S to T, " + n, n, () -> Graphs.completeBut(n, 0, n - 1)));
        all.add(new Beginning("S to T alone, " + n, n, () -> Graphs.of(n, 0, n - 1)));
        all.add(new Beginning("line, " + n, n, () -> Graphs.line(n)));
        all.add(new Beginning("ring, ends joined, " + n, n, () -> withEnds(Graphs.ring(n), 2, 1)));
        all.add(new Beginning("line, ends inside, " + n, n, () -> withEnds(Graphs.line(n), n - 1, 1)));
    }

    private static DisjointPaths withEnds(DisjointPaths x, int s, int t) {
        x.ends(s, t);
        return x;
    }
}
