/** Every graph of up to 5 points, and a sample of those of 6, 7 and 8, asked everything, beside PlainGraph. */
public final class EveryGraphTest {
    private static final Check check = new Check();

    public static void main(String[] args) {
        for (int n = 1; n <= 5; n++) {
            graphs(n, 1);
        }
        // Primes, so that the graphs in between differ in all their pairs.
        graphs(6, 61);
        graphs(7, 4001);
        graphs(8, 524287);
        check.finish();
    }

    /** Bit by bit the numbers below 2 to the number of pairs say which pairs are joined. */
    private static void graphs(int n, int stride) {
        for (int joins = 0; joins < 1 << n * (n - 1) / 2; joins += stride) {
            graph(n, joins);
        }
    }

    private static void graph(int n, int joins) {
        ChromaticSearch x = new ChromaticSearch(n);
        PlainGraph plain = new PlainGraph(n);
        int bit = 0;
        for (int u = 0; u < n; u++) {
            for (int v = 0; v < u; v++) {
                if ((joins >> bit & 1) == 1) {
                    check.due("join", x.join(u, v, true), plain.join(u, v, true));
                }
                bit++;
            }
        }
        askAll("points " + n + ", joins " + joins + ": ", x, plain);
    }

    /** At most 325 questions: with the joins of 8 points an object stays below 512 calls. */
    private static void askAll(String name, ChromaticSearch x, PlainGraph plain) {
        check.due(name + "chromatic", x.chromatic(), plain.chromatic());
        check.due(name + "ways", x.ways(), plain.ways());
        check.due(name + "clique", x.clique(), plain.clique());
        check.due(name + "cliqueSet", x.cliqueSet(), plain.cliqueSet());
        check.due(name + "free", x.free(), plain.free());
        for (int u = -1; u <= plain.n; u++) {
            check.due(name + "colour " + u, x.colour(u), plain.colour(u));
            check.due(name + "needed " + u, x.needed(u), plain.needed(u));
            for (int v = -1; v <= plain.n; v++) {
                check.due(name + "tight " + u + " " + v, x.tight(u, v), plain.tight(u, v));
                check.due(name + "same " + u + " " + v, x.same(u, v), plain.same(u, v));
                check.due(name + "together " + u + " " + v, x.together(u, v), plain.together(u, v));
            }
        }
    }
}
