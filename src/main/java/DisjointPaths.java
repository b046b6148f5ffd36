/**
 * How many ways without a common place lead from one place of a graph to another, and which places must be
 * shut to cut them off.
 *
 * <p>A set of vertices is held as the number that has 2 to the power v added up for its vertices v, as the
 * document writes its cuts.
 *
 * <p>A WALL between two vertices is a set without these two that meets every path between them but the one
 * along their own edge. It is a cut where they have no edge, and unlike a cut there always is one. By Menger's
 * theorem the least wall has as many vertices as there are paths apart from each other beside the direct one,
 * so that all answers but the distance come from least walls.
 */
public final class DisjointPaths {
    public static final int BAD_ARG = -1;
    public static final int NONE = -4;

    private static final int LEAST_VERTICES = 3;
    private static final int MOST_VERTICES = 8;

    private final int[] neighbours = new int[MOST_VERTICES];
    private final int count;
    private int source;
    private int target;

    public DisjointPaths(int vertices) {
        if (vertices < LEAST_VERTICES) {
            count = LEAST_VERTICES;
        } else if (vertices > MOST_VERTICES) {
            count = MOST_VERTICES;
        } else {
            count = vertices;
        }
        source = 0;
        target = count - 1;
    }

    public int vertices() {
        return count;
    }

    public int edge(int u, int v, int on) {
        if (!isPair(u, v)) {
            return BAD_ARG;
        }
        boolean before = hasEdge(u, v);
        boolean after = on != 0;
        if (before != after) {
            flipEdge(u, v);
        }
        return before ? 1 : 0;
    }

    public boolean joined(int u, int v) {
        return isPair(u, v) && hasEdge(u, v);
    }

    public int ends(int s, int t) {
        if (!isPair(s, t)) {
            return BAD_ARG;
        }
        source = s;
        target = t;
        return 0;
    }

    public int paths() {
        return mostPaths(source, target);
    }

    public int cutSize() {
        if (hasEdge(source, target)) {
            return NONE;
        }
        int cut = leastWall(source, target, 0);
        return sizeOf(cut);
    }

    public int firstCut() {
        if (hasEdge(source, target)) {
            return NONE;
        }
        return leastWall(source, target, 0);
    }

    public int cutWith(int v) {
        if (!isVertex(v)) {
            return BAD_ARG;
        }
        if (isEnd(v) || hasEdge(source, target)) {
            return NONE;
        }
        int cut = leastWall(source, target, 1 << v);
        return sizeOf(cut);
    }

    public int loss(int v) {
        if (!isVertex(v)) {
            return BAD_ARG;
        }
        if (isEnd(v)) {
            return 0;
        }
        int wall = leastWall(source, target, 0);
        int wallWithV = leastWall(source, target, 1 << v);
        // A least wall with v is v and a least wall of the graph that has no edge at v. The direct path, if
        // there is one, stays, so it makes no difference.
        int sizeWithoutV = sizeOf(wallWithV) - 1;
        return sizeOf(wall) - sizeWithoutV;
    }

    public int tightEdges() {
        int now = mostPaths(source, target);
        int tight = 0;
        for (int u = 0; u < count; u++) {
            for (int v = u + 1; v < count; v++) {
                if (hasEdge(u, v) && pathsAfterFlip(u, v) < now) {
                    tight++;
                }
            }
        }
        return tight;
    }

    public int helpfulEdges() {
        int now = mostPaths(source, target);
        int helpful = 0;
        for (int u = 0; u < count; u++) {
            for (int v = u + 1; v < count; v++) {
                if (!hasEdge(u, v) && pathsAfterFlip(u, v) > now) {
                    helpful++;
                }
            }
        }
        return helpful;
    }

    public int distance() {
        int reached = 1 << source;
        // A path has no vertex twice, so none has as many edges as there are vertices.
        for (int edges = 1; edges < count; edges++) {
            reached |= neighboursOf(reached);
            if (contains(reached, target)) {
                return edges;
            }
        }
        return NONE;
    }

    public int strength() {
        // Two vertices without an edge have at most N - 2 paths, so this stays only if there are no such two.
        int least = count - 1;
        for (int u = 0; u < count; u++) {
            for (int v = u + 1; v < count; v++) {
                if (!hasEdge(u, v)) {
                    int most = mostPaths(u, v);
                    least = most < least ? most : least;
                }
            }
        }
        return least;
    }

    public int clear() {
        int edgeEnds = 0;
        for (int v = 0; v < count; v++) {
            edgeEnds += sizeOf(neighbours[v]);
            neighbours[v] = 0;
        }
        return edgeEnds / 2;
    }

    private boolean isVertex(int v) {
        return v >= 0 && v < count;
    }

    private boolean isPair(int u, int v) {
        return isVertex(u) && isVertex(v) && u != v;
    }

    private boolean isEnd(int v) {
        return v == source || v == target;
    }

    private boolean hasEdge(int u, int v) {
        return contains(neighbours[u], v);
    }

    private void flipEdge(int u, int v) {
        neighbours[u] ^= 1 << v;
        neighbours[v] ^= 1 << u;
    }

    private int pathsAfterFlip(int u, int v) {
        flipEdge(u, v);
        int most = mostPaths(source, target);
        flipEdge(u, v);
        return most;
    }

    private int mostPaths(int s, int t) {
        int wall = leastWall(s, t, 0);
        int direct = hasEdge(s, t) ? 1 : 0;
        return direct + sizeOf(wall);
    }

    /** Of the walls between s and t that have all of the set needed, the first one of the least size. */
    private int leastWall(int s, int t, int needed) {
        int all = (1 << count) - 1;
        // All vertices but s and t are a wall, so there is one to begin with.
        int best = all & ~endsOf(s, t);
        int bestSize = count - 2;
        for (int set = 0; set <= all; set++) {
            int size = sizeOf(set);
            if (size < bestSize && (set & needed) == needed && isWall(set, s, t)) {
                best = set;
                bestSize = size;
            }
        }
        return best;
    }

    private boolean isWall(int set, int s, int t) {
        int both = endsOf(s, t);
        if ((set & both) != 0) {
            return false;
        }
        int open = ~(set | both);
        int reached = neighbours[s] & open;
        // Each round goes at least one vertex on along every path, so there are rounds enough for all.
        for (int round = 0; round < count; round++) {
            reached |= neighboursOf(reached) & open;
        }
        return (reached & neighbours[t]) == 0;
    }

    private int neighboursOf(int set) {
        int found = 0;
        for (int v = 0; v < count; v++) {
            // Not by contains(): with it calls would go seven deep, the first one from outside counted.
            if (((set >> v) & 1) != 0) {
                found |= neighbours[v];
            }
        }
        return found;
    }

    private static int endsOf(int s, int t) {
        return (1 << s) | (1 << t);
    }

    private static boolean contains(int set, int v) {
        return ((set >> v) & 1) != 0;
    }

    private static int sizeOf(int set) {
        int size = 0;
        for (int v = 0; v < MOST_VERTICES; v++) {
            size += (set >> v) & 1;
        }
        return size;
    }
}
