import java.util.ArrayList;
import java.util.List;

/**
 * Compares every answer with that of a second program, which follows the document's terms word for word: it
 * lists the paths, and looks for paths apart from each other and for cuts in that list.
 */
public final class OracleTest {
    private static final int BAD_ARG = -1;
    private static final int NONE = -4;
    private static final int CALLS = 512;
    private static final int[] ODD_ARGUMENTS = {
        -1, -2, 8, 9, 31, 32, 33, 39, 64, 255, 256, 1 << 30, Integer.MIN_VALUE, Integer.MAX_VALUE,
    };

    // A fixed beginning, so that every run of the test makes the same calls.
    private static long dice = 20240607L;

    public static void main(String[] args) {
        for (int n = 3; n <= 5; n++) {
            allGraphs(n);
        }
        allGraphsOfSix();
        for (int run = 0; run < 140; run++) {
            longRun(run);
        }
        Due.end();
    }

    private static void allGraphs(int n) {
        int pairs = n * (n - 1) / 2;
        for (int edges = 0; edges < 1 << pairs; edges++) {
            // One object for all ends would be asked more than 512 times.
            for (int s = 0; s < n; s++) {
                allTargets(n, edges, s);
            }
        }
    }

    private static void allTargets(int n, int edges, int s) {
        DisjointPaths x = new DisjointPaths(n);
        Oracle o = new Oracle(n);
        putEdges(edges, x, o);
        for (int t = 0; t < n; t++) {
            String where = "graph " + edges + " of " + n + ", ends(" + s + ", " + t + "), ";
            Due.is(where + "answer", x.ends(s, t), o.ends(s, t));
            askAll(where, x, o);
        }
        Due.is("clear of graph " + edges, x.clear(), o.clear());
    }

    /** With the ends of a new object alone: any others are these ones with the vertices named otherwise. */
    private static void allGraphsOfSix() {
        for (int edges = 0; edges < 1 << 15; edges++) {
            DisjointPaths x = new DisjointPaths(6);
            Oracle o = new Oracle(6);
            putEdges(edges, x, o);
            askAll("graph " + edges + " of 6, ", x, o);
        }
    }

    private static void putEdges(int edges, DisjointPaths x, Oracle o) {
        int pair = 0;
        for (int u = 0; u < o.n; u++) {
            for (int v = u + 1; v < o.n; v++) {
                int on = (edges >> pair) & 1;
                Due.is("edge", x.edge(u, v, on), o.edge(u, v, on));
                pair++;
            }
        }
    }

    private static void askAll(String where, DisjointPaths x, Oracle o) {
        for (int kind = 3; kind <= 10; kind++) {
            Due.is(where + "call " + kind, call(x, kind, 0, 0, 0), o.call(kind, 0, 0, 0));
        }
        for (int v = -1; v <= o.n; v++) {
            Due.is(where + "cutWith(" + v + ")", x.cutWith(v), o.cutWith(v));
            Due.is(where + "loss(" + v + ")", x.loss(v), o.loss(v));
        }
    }

    private static void longRun(int run) {
        int asked = run % 10 + 1;
        DisjointPaths x = new DisjointPaths(asked);
        Oracle o = new Oracle(asked < 3 ? 3 : asked > 8 ? 8 : asked);
        int taking = roll(6);
        for (int i = 1; i <= CALLS; i++) {
            int kind = roll(3) == 0 ? 0 : roll(14);
            // Without more edges put than cleared away most graphs would be almost empty.
            if (kind == 11 && roll(8) != 0) {
                kind = 0;
            }
            int a = argument(o.n);
            int b = argument(o.n);
            int on = roll(8) < taking ? 0 : roll(4) == 0 ? (int) next() : 1;
            String what = "run " + run + ", call " + i + ", kind " + kind + " (" + a + ", " + b + ", " + on + ")";
            Due.is(what, call(x, kind, a, b, on), o.call(kind, a, b, on));
        }
    }

    private static int call(DisjointPaths x, int kind, int a, int b, int on) {
        switch (kind) {
            case 0: return x.edge(a, b, on);
            case 1: return x.joined(a, b) ? 1 : 0;
            case 2: return x.ends(a, b);
            case 3: return x.paths();
            case 4: return x.cutSize();
            case 5: return x.firstCut();
            case 6: return x.tightEdges();
            case 7: return x.helpfulEdges();
            case 8: return x.distance();
            case 9: return x.strength();
            case 10: return x.vertices();
            case 11: return x.clear();
            case 12: return x.cutWith(a);
            default: return x.loss(a);
        }
    }

    private static int argument(int n) {
        return roll(20) == 0 ? ODD_ARGUMENTS[roll(ODD_ARGUMENTS.length)] : roll(25) == 0 ? n : roll(n);
    }

    private static int roll(int sides) {
        return (int) ((next() >>> 33) % sides);
    }

    private static long next() {
        dice = dice * 6364136223846793005L + 1442695040888963407L;
        return dice;
    }

    private static final class Oracle {
        final int n;
        private final boolean[][] edges;
        private int s = 0;
        private int t;

        Oracle(int n) {
            this.n = n;
            edges = new boolean[n][n];
            t = n - 1;
        }

        int call(int kind, int a, int b, int on) {
            switch (kind) {
                case 0: return edge(a, b, on);
                case 1: return isPair(a, b) && edges[a][b] ? 1 : 0;
                case 2: return ends(a, b);
                case 3: return paths(s, t);
                case 4: return cut(-1, true);
                case 5: return cut(-1, false);
                case 6: return changing(true);
                case 7: return changing(false);
                case 8: return distance();
                case 9: return strength();
                case 10: return n;
                case 11: return clear();
                case 12: return cutWith(a);
                default: return loss(a);
            }
        }

        int edge(int u, int v, int on) {
            if (!isPair(u, v)) {
                return BAD_ARG;
            }
            int before = edges[u][v] ? 1 : 0;
            set(u, v, on != 0);
            return before;
        }

        int ends(int newS, int newT) {
            if (!isPair(newS, newT)) {
                return BAD_ARG;
            }
            s = newS;
            t = newT;
            return 0;
        }

        int cutWith(int v) {
            return v < 0 || v >= n ? BAD_ARG : cut(v, true);
        }

        int loss(int v) {
            if (v < 0 || v >= n) {
                return BAD_ARG;
            }
            if (v == s || v == t) {
                return 0;
            }
            Oracle without = copy();
            for (int u = 0; u < n; u++) {
                without.set(u, v, false);
            }
            return paths(s, t) - without.paths(s, t);
        }

        int clear() {
            int count = 0;
            for (int u = 0; u < n; u++) {
                for (int v = u + 1; v < n; v++) {
                    count += edges[u][v] ? 1 : 0;
                    set(u, v, false);
                }
            }
            return count;
        }

        private int cut(int needed, boolean size) {
            int best = NONE;
            int bestSize = n + 1;
            boolean[] inners = innersOf(s, t);
            for (int set = 0; set < 1 << n; set++) {
                boolean fits = (set >> s & 1) == 0 && (set >> t & 1) == 0;
                fits = fits && (needed < 0 || (set >> needed & 1) == 1);
                for (int inner = 0; inner < 1 << n; inner++) {
                    fits = fits && !(inners[inner] && (inner & set) == 0);
                }
                if (fits && Integer.bitCount(set) < bestSize) {
                    best = set;
                    bestSize = Integer.bitCount(set);
                }
            }
            return best == NONE ? NONE : size ? bestSize : best;
        }

        private int changing(boolean there) {
            int now = paths(s, t);
            int count = 0;
            for (int u = 0; u < n; u++) {
                for (int v = u + 1; v < n; v++) {
                    if (edges[u][v] == there) {
                        Oracle other = copy();
                        other.set(u, v, !there);
                        int then = other.paths(s, t);
                        count += there ? (then < now ? 1 : 0) : (then > now ? 1 : 0);
                    }
                }
            }
            return count;
        }

        private int distance() {
            int least = NONE;
            boolean[] inners = innersOf(s, t);
            for (int inner = 0; inner < 1 << n; inner++) {
                int length = Integer.bitCount(inner) + 1;
                if (inners[inner] && (least == NONE || length < least)) {
                    least = length;
                }
            }
            return least;
        }

        private int strength() {
            int least = NONE;
            for (int u = 0; u < n; u++) {
                for (int v = 0; v < n; v++) {
                    if (u != v && !edges[u][v]) {
                        int most = paths(u, v);
                        least = least == NONE || most < least ? most : least;
                    }
                }
            }
            return least == NONE ? n - 1 : least;
        }

        private int paths(int from, int to) {
            boolean[] inners = innersOf(from, to);
            List<Integer> list = new ArrayList<>();
            for (int inner = 0; inner < 1 << n; inner++) {
                if (inners[inner]) {
                    list.add(inner);
                }
            }
            return mostApart(list, 0, 0);
        }

        private static int mostApart(List<Integer> list, int next, int used) {
            int most = 0;
            for (int i = next; i < list.size(); i++) {
                if ((list.get(i) & used) == 0) {
                    most = Math.max(most, 1 + mostApart(list, i + 1, used | list.get(i)));
                }
            }
            return most;
        }

        /** Which sets are the vertices between the ends of a path; two paths with the same ones are not apart. */
        private boolean[] innersOf(int from, int to) {
            boolean[] inners = new boolean[1 << n];
            walk(from, to, 1 << from, (1 << from) | (1 << to), inners);
            return inners;
        }

        private void walk(int at, int to, int visited, int ends, boolean[] inners) {
            for (int v = 0; v < n; v++) {
                if (edges[at][v] && v == to) {
                    inners[visited & ~ends] = true;
                } else if (edges[at][v] && (visited >> v & 1) == 0) {
                    walk(v, to, visited | 1 << v, ends, inners);
                }
            }
        }

        private boolean isPair(int u, int v) {
            return u >= 0 && u < n && v >= 0 && v < n && u != v;
        }

        private void set(int u, int v, boolean on) {
            edges[u][v] = on;
            edges[v][u] = on;
        }

        private Oracle copy() {
            Oracle other = new Oracle(n);
            for (int u = 0; u < n; u++) {
                other.edges[u] = edges[u].clone();
            }
            other.s = s;
            other.t = t;
            return other;
        }
    }
}
