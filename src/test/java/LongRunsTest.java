import java.util.Random;

/** Runs of 512 calls of every kind, wrong inputs among them, on graphs of every size, beside PlainGraph. */
public final class LongRunsTest {
    private static final Check check = new Check();

    public static void main(String[] args) {
        int seed = 0;
        for (int points = -1; points <= 10; points++) {
            for (int density = 0; density <= 8; density++) {
                run(seed, points, density);
                seed++;
            }
        }
        check.finish();
    }

    /** Of eight joins as many as dense says join and the others part; after a turn it is the other way round. */
    private static void run(int seed, int points, int dense) {
        // The seed is fixed, so every run of the tests makes the same calls.
        Random random = new Random(seed);
        ChromaticSearch x = new ChromaticSearch(points);
        PlainGraph plain = new PlainGraph(points);
        int density = dense;
        for (int call = 0; call < 512; call++) {
            String name = "seed " + seed + ", call " + call + ": ";
            int u = number(random, plain.n);
            int v = number(random, plain.n);
            boolean joined = random.nextInt(8) < density;
            switch (random.nextInt(24)) {
                case 0: check.due(name + "chromatic", x.chromatic(), plain.chromatic()); break;
                case 1: check.due(name + "colour " + u, x.colour(u), plain.colour(u)); break;
                case 2: check.due(name + "ways", x.ways(), plain.ways()); break;
                case 3: check.due(name + "clique", x.clique(), plain.clique()); break;
                case 4: check.due(name + "cliqueSet", x.cliqueSet(), plain.cliqueSet()); break;
                case 5: check.due(name + "free", x.free(), plain.free()); break;
                case 6: check.due(name + "needed " + u, x.needed(u), plain.needed(u)); break;
                case 7: check.due(name + "tight " + u + " " + v, x.tight(u, v), plain.tight(u, v)); break;
                case 8: check.due(name + "same " + u + " " + v, x.same(u, v), plain.same(u, v)); break;
                case 9: check.due(name + "together " + u + " " + v, x.together(u, v), plain.together(u, v)); break;
                case 10:
                    x.turn();
                    plain.turn();
                    density = 8 - density;
                    break;
                default:
                    check.due(name + "join " + u + " " + v + " " + joined, x.join(u, v, joined),
                            plain.join(u, v, joined));
            }
        }
    }

    private static int number(Random random, int n) {
        int[] outside = {-1, n, n + 1, 8, -32, 32, Integer.MIN_VALUE, Integer.MAX_VALUE};
        return random.nextInt(10) == 0 ? outside[random.nextInt(outside.length)] : random.nextInt(n);
    }
}
