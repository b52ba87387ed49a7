/**
 * Every promise on the graphs in which no two points are joined and in which any two are, with 1 to 8 points, however
 * the graph came about.
 */
public final class EmptyAndFullTest {
    private static final Check check = new Check();

    public static void main(String[] args) {
        for (int n = 1; n <= 8; n++) {
            emptyMade(n);
            emptyParted(n);
            emptyTurned(n);
            fullJoined(n);
            fullTurned(n);
            fullTurnedOften(n);
        }
        emptyClamped();
        fullClamped();
        check.finish();
    }

    private static void emptyMade(int n) {
        empty("new", new ChromaticSearch(n), n);
    }

    private static void emptyParted(int n) {
        ChromaticSearch x = Graphs.complete(n);
        Graphs.joinAll(x, n, false);
        empty("joined and parted", x, n);
    }

    private static void emptyTurned(int n) {
        ChromaticSearch x = Graphs.complete(n);
        x.turn();
        empty("complete and turned", x, n);
    }

    private static void emptyClamped() {
        for (int points : new int[] {Integer.MIN_VALUE, -1, 0}) {
            empty("new(" + points + ")", new ChromaticSearch(points), 1);
        }
        for (int points : new int[] {9, Integer.MAX_VALUE}) {
            empty("new(" + points + ")", new ChromaticSearch(points), 8);
        }
    }

    private static void fullJoined(int n) {
        full("joined", Graphs.complete(n), n);
    }

    private static void fullTurned(int n) {
        ChromaticSearch x = new ChromaticSearch(n);
        x.turn();
        full("turned", x, n);
    }

    private static void fullTurnedOften(int n) {
        ChromaticSearch x = Graphs.complete(n);
        for (int i = 0; i < 4; i++) {
            x.turn();
        }
        full("turned four times", x, n);
    }

    private static void fullClamped() {
        for (int points : new int[] {Integer.MIN_VALUE, -1, 0}) {
            ChromaticSearch x = new ChromaticSearch(points);
            x.turn();
            full("new(" + points + ") turned", x, 1);
        }
        for (int points : new int[] {9, Integer.MAX_VALUE}) {
            ChromaticSearch x = new ChromaticSearch(points);
            x.turn();
            full("new(" + points + ") turned", x, 8);
        }
    }

    private static void empty(String how, ChromaticSearch x, int n) {
        check.sentence("no two of " + n + " joined, " + how);
        check.due("chromatic()", x.chromatic(), 1);
        check.due("ways()", x.ways(), 1);
        check.due("clique()", x.clique(), 1);
        check.due("cliqueSet()", x.cliqueSet(), 1);
        check.due("free()", x.free(), n);
        for (int u = 0; u < n; u++) {
            check.due("colour(" + u + ")", x.colour(u), 0);
            check.due("needed(" + u + ")", x.needed(u), n == 1);
            for (int v = 0; v < n; v++) {
                String pair = "(" + u + ", " + v + ")";
                check.due("tight" + pair, x.tight(u, v), false);
                check.due("same" + pair, x.same(u, v), true);
                check.due("together" + pair, x.together(u, v), 1);
            }
        }
    }

    private static void full(String how, ChromaticSearch x, int n) {
        check.sentence("any two of " + n + " joined, " + how);
        check.due("chromatic()", x.chromatic(), n);
        check.due("ways()", x.ways(), factorial(n));
        check.due("clique()", x.clique(), n);
        check.due("cliqueSet()", x.cliqueSet(), (1 << n) - 1);
        check.due("free()", x.free(), 1);
        for (int u = 0; u < n; u++) {
            check.due("colour(" + u + ")", x.colour(u), u);
            check.due("needed(" + u + ")", x.needed(u), true);
            for (int v = 0; v < n; v++) {
                String pair = "(" + u + ", " + v + ")";
                check.due("tight" + pair, x.tight(u, v), u != v);
                check.due("same" + pair, x.same(u, v), u == v);
                check.due("together" + pair, x.together(u, v), u == v ? n : ChromaticSearch.BAD);
            }
        }
    }

    private static int factorial(int n) {
        return n < 2 ? 1 : n * factorial(n - 1);
    }
}
