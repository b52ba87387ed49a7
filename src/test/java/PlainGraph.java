import java.util.ArrayList;
import java.util.List;

/**
 * The document's words taken literally, to compare with: every colouring is written out and looked at, renamings of
 * the colours too, and a graph without a point or a join is made anew; none of the short cuts of the class is used.
 */
final class PlainGraph {
    final int n;
    final boolean[][] joined;
    private List<int[]> kept = null;

    PlainGraph(int points) {
        n = Math.max(1, Math.min(8, points));
        joined = new boolean[n][n];
    }

    boolean outside(int p) {
        return p < 0 || p >= n;
    }

    boolean join(int u, int v, boolean how) {
        if (outside(u) || outside(v) || u == v) {
            return false;
        }
        joined[u][v] = how;
        joined[v][u] = how;
        kept = null;
        return true;
    }

    void turn() {
        for (int u = 0; u < n; u++) {
            for (int v = 0; v < n; v++) {
                joined[u][v] = u != v && !joined[u][v];
            }
        }
        kept = null;
    }

    int chromatic() {
        return best().get(0)[n];
    }

    int colour(int p) {
        return outside(p) ? -1 : best().get(0)[p];
    }

    int ways() {
        return best().size();
    }

    int clique() {
        return Integer.bitCount(cliqueSet());
    }

    int cliqueSet() {
        int best = 0;
        for (int set = (1 << n) - 1; set > 0; set--) {
            if (Integer.bitCount(set) >= Integer.bitCount(best) && alike(set, true)) {
                best = set;
            }
        }
        return best;
    }

    int free() {
        int best = 0;
        for (int set = 1; set < 1 << n; set++) {
            if (alike(set, false)) {
                best = Math.max(best, Integer.bitCount(set));
            }
        }
        return best;
    }

    boolean needed(int p) {
        if (outside(p)) {
            return false;
        }
        if (n == 1) {
            return true;
        }
        PlainGraph rest = new PlainGraph(n - 1);
        for (int u = 0; u < n - 1; u++) {
            for (int v = 0; v < n - 1; v++) {
                rest.joined[u][v] = joined[u < p ? u : u + 1][v < p ? v : v + 1];
            }
        }
        return rest.chromatic() < chromatic();
    }

    boolean tight(int u, int v) {
        if (outside(u) || outside(v) || u == v || !joined[u][v]) {
            return false;
        }
        PlainGraph parted = new PlainGraph(n);
        for (int a = 0; a < n; a++) {
            parted.joined[a] = joined[a].clone();
        }
        parted.join(u, v, false);
        return parted.chromatic() < chromatic();
    }

    boolean same(int u, int v) {
        if (outside(u) || outside(v)) {
            return false;
        }
        for (int[] colours : best()) {
            if (colours[u] != colours[v]) {
                return false;
            }
        }
        return true;
    }

    int together(int u, int v) {
        if (outside(u) || outside(v) || joined[u][v]) {
            return -1;
        }
        for (int k = 1; k <= n; k++) {
            for (int[] colours : colourings(k)) {
                if (colours[u] == colours[v]) {
                    return k;
                }
            }
        }
        throw new IllegalStateException("no colouring");
    }

    private boolean alike(int set, boolean how) {
        for (int u = 0; u < n; u++) {
            for (int v = 0; v < u; v++) {
                if ((set >> u & 1) == 1 && (set >> v & 1) == 1 && joined[u][v] != how) {
                    return false;
                }
            }
        }
        return true;
    }

    /** The colourings that use the fewest colours, in order; entry n of each is the number of colours. */
    private List<int[]> best() {
        for (int k = 1; kept == null; k++) {
            List<int[]> all = colourings(k);
            if (!all.isEmpty()) {
                kept = all;
            }
        }
        return kept;
    }

    /** The colourings that use k colours, in order. */
    private List<int[]> colourings(int k) {
        List<int[]> all = new ArrayList<>();
        int[] colours = new int[n + 1];
        colours[n] = k;
        colourFrom(0, colours, k, all);
        return all;
    }

    /** Goes on with point p in every way: all colours from 0 to k - 1, the smaller first. */
    private void colourFrom(int p, int[] colours, int k, List<int[]> all) {
        if (p == n) {
            if (usesAll(colours, k)) {
                all.add(colours.clone());
            }
            return;
        }
        for (int c = 0; c < k; c++) {
            colours[p] = c;
            // Whatever the later points have, a clash makes it no colouring; without this 8 points take too long.
            if (!clashes(p, colours)) {
                colourFrom(p + 1, colours, k, all);
            }
        }
    }

    private boolean clashes(int p, int[] colours) {
        for (int q = 0; q < p; q++) {
            if (joined[p][q] && colours[p] == colours[q]) {
                return true;
            }
        }
        return false;
    }

    private boolean usesAll(int[] colours, int k) {
        int used = 0;
        for (int p = 0; p < n; p++) {
            used |= 1 << colours[p];
        }
        return used == (1 << k) - 1;
    }
}
