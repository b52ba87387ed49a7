/** Colours for the points of a small graph. */
public final class ChromaticSearch {
    public static final int BAD = -1;

    private static final int MOST_POINTS = 8;
    private static final int NONE = -1;
    /** A walk through all colourings of 8 points takes fewer than 7,000 steps. */
    private static final int MOST_STEPS = 1000000;
    private static final int MOST_COLOURINGS = 1000000;

    private final int size;
    /** Bit q of links[p] says whether p and q are joined. */
    private final int[] links = new int[MOST_POINTS];
    /** The graph that is being coloured: a copy of links, so that questions of the kind "what if" leave links alone. */
    private final int[] trial = new int[MOST_POINTS];
    /** The colours that the walk through the colourings of trial stands at. */
    private final int[] shade = new int[MOST_POINTS];

    public ChromaticSearch(int points) {
        size = points < 1 ? 1 : points > MOST_POINTS ? MOST_POINTS : points;
    }

    public boolean join(int u, int v, boolean joined) {
        if (!isPair(u, v)) {
            return false;
        }
        if (joined) {
            links[u] |= 1 << v;
            links[v] |= 1 << u;
        } else {
            links[u] &= ~(1 << v);
            links[v] &= ~(1 << u);
        }
        return true;
    }

    public int chromatic() {
        copyLinks();
        return leastColours();
    }

    public int colour(int p) {
        if (!isPoint(p)) {
            return BAD;
        }
        copyLinks();
        leastColours();
        return shade[p];
    }

    public int ways() {
        copyLinks();
        int k = leastColours();
        int ways = countColourings(k, MOST_COLOURINGS);
        // The walk leaves out the renamings of the colours. A colouring with the fewest colours uses all k of
        // them, so each one that the walk meets stands for k! different ones.
        for (int i = 2; i <= k; i++) {
            ways *= i;
        }
        return ways;
    }

    public int clique() {
        int set = cliqueSet();
        return sizeOf(set);
    }

    public int cliqueSet() {
        int best = 0;
        int bestSize = 0;
        for (int set = 1; set < 1 << size; set++) {
            int setSize = sizeOf(set);
            if (setSize > bestSize && isClique(set)) {
                best = set;
                bestSize = setSize;
            }
        }
        return best;
    }

    public int free() {
        int bestSize = 0;
        for (int set = 1; set < 1 << size; set++) {
            int setSize = sizeOf(set);
            if (setSize > bestSize && isFree(set)) {
                bestSize = setSize;
            }
        }
        return bestSize;
    }

    public boolean needed(int p) {
        if (!isPoint(p)) {
            return false;
        }
        if (size == 1) {
            return true;
        }
        copyLinks();
        int before = leastColours();
        // Beside at least one other point, a point without links costs no colour: it is as good as taken away.
        for (int q = 0; q < size; q++) {
            unlinkTrial(p, q);
        }
        return leastColours() < before;
    }

    public boolean tight(int u, int v) {
        if (!isPair(u, v) || !isJoined(u, v)) {
            return false;
        }
        copyLinks();
        int before = leastColours();
        unlinkTrial(u, v);
        return leastColours() < before;
    }

    public boolean same(int u, int v) {
        if (!isPoint(u) || !isPoint(v)) {
            return false;
        }
        if (u == v) {
            return true;
        }
        copyLinks();
        int before = leastColours();
        // A colouring that tells u from v is just one of the graph in which they are joined.
        linkTrial(u, v);
        return leastColours() > before;
    }

    public int together(int u, int v) {
        if (!isPoint(u) || !isPoint(v) || isJoined(u, v)) {
            return BAD;
        }
        copyLinks();
        // Once v is joined to all that u is joined to, u can always take the colour of v; and a colouring that gives
        // them the same colour stays one.
        for (int q = 0; q < size; q++) {
            if (isJoined(u, q)) {
                linkTrial(v, q);
            }
        }
        return leastColours();
    }

    public void turn() {
        int all = (1 << size) - 1;
        for (int p = 0; p < size; p++) {
            links[p] = all & ~links[p] & ~(1 << p);
        }
    }

    private boolean isPoint(int p) {
        return p >= 0 && p < size;
    }

    private boolean isPair(int u, int v) {
        return isPoint(u) && isPoint(v) && u != v;
    }

    private boolean isJoined(int u, int v) {
        return (links[u] >> v & 1) == 1;
    }

    private boolean isClique(int set) {
        for (int p = 0; p < size; p++) {
            int others = set & ~(1 << p);
            if ((set >> p & 1) == 1 && (others & ~links[p]) != 0) {
                return false;
            }
        }
        return true;
    }

    private boolean isFree(int set) {
        for (int p = 0; p < size; p++) {
            if ((set >> p & 1) == 1 && (set & links[p]) != 0) {
                return false;
            }
        }
        return true;
    }

    private static int sizeOf(int set) {
        int count = 0;
        for (int p = 0; p < MOST_POINTS; p++) {
            count += set >> p & 1;
        }
        return count;
    }

    private void copyLinks() {
        for (int p = 0; p < size; p++) {
            trial[p] = links[p];
        }
    }

    private void linkTrial(int u, int v) {
        trial[u] |= 1 << v;
        trial[v] |= 1 << u;
    }

    private void unlinkTrial(int u, int v) {
        trial[u] &= ~(1 << v);
        trial[v] &= ~(1 << u);
    }

    /** The chromatic number of trial; shade then holds the first of the colourings that use so many colours. */
    private int leastColours() {
        for (int k = 1; k <= size; k++) {
            if (countColourings(k, 1) == 1) {
                return k;
            }
        }
        return size;
    }

    /**
     * Walks in order through the colourings of trial with colours below k in which each colour comes up for the
     * first time after all smaller ones, until it has met as many as most says; answers how many it met. The first
     * of all colourings is one of these, for swapping two colours that come up in the wrong order makes it smaller.
     */
    private int countColourings(int k, int most) {
        int found = 0;
        int p = 0;
        shade[0] = NONE;
        for (int step = 0; step < MOST_STEPS && p >= 0 && found < most; step++) {
            int c = nextShade(p, k);
            shade[p] = c;
            if (c == NONE) {
                p--;
            } else if (p == size - 1) {
                found++;
            } else {
                p++;
                shade[p] = NONE;
            }
        }
        return found;
    }

    /** The next colour above shade[p] that p can take beside the points before it, or NONE. */
    private int nextShade(int p, int k) {
        int unused = firstUnused(p);
        for (int c = shade[p] + 1; c < k && c <= unused; c++) {
            if (!clashes(p, c)) {
                return c;
            }
        }
        return NONE;
    }

    private int firstUnused(int p) {
        int unused = 0;
        for (int q = 0; q < p; q++) {
            if (shade[q] >= unused) {
                unused = shade[q] + 1;
            }
        }
        return unused;
    }

    private boolean clashes(int p, int c) {
        for (int q = 0; q < p; q++) {
            if (shade[q] == c && (trial[p] >> q & 1) == 1) {
                return true;
            }
        }
        return false;
    }
}
