/** Graphs that the tests share, each on a new object. */
final class Graphs {
    private Graphs() {
    }

    /** The graph in which just the pairs that are named, two numbers for each, are joined. */
    static ChromaticSearch of(int points, int... ends) {
        ChromaticSearch x = new ChromaticSearch(points);
        for (int i = 0; i + 1 < ends.length; i += 2) {
            x.join(ends[i], ends[i + 1], true);
        }
        return x;
    }

    static ChromaticSearch ring(int points) {
        ChromaticSearch x = new ChromaticSearch(points);
        for (int p = 0; p < points; p++) {
            x.join(p, (p + 1) % points, true);
        }
        return x;
    }

    static ChromaticSearch complete(int points) {
        ChromaticSearch x = new ChromaticSearch(points);
        joinAll(x, points, true);
        return x;
    }

    /** A middle point, the last one, joined to every point of a ring of the others. */
    static ChromaticSearch wheel(int points) {
        ChromaticSearch x = new ChromaticSearch(points);
        for (int p = 0; p < points - 1; p++) {
            x.join(p, (p + 1) % (points - 1), true);
            x.join(p, points - 1, true);
        }
        return x;
    }

    /** Joins any two points, or parts them. */
    static void joinAll(ChromaticSearch x, int points, boolean joined) {
        for (int p = 0; p < points; p++) {
            for (int q = 0; q < p; q++) {
                x.join(p, q, joined);
            }
        }
    }
}
