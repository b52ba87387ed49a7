/** Each promise with answers worked out by hand: ordinary inputs, the edges that the document names, wrong inputs. */
public final class PromisesTest {
    private static final Check check = new Check();
    private static final int[] FAR = {Integer.MIN_VALUE, -33, -32, -1, 32, 33, Integer.MAX_VALUE};

    public static void main(String[] args) {
        newObject();
        join();
        chromatic();
        colour();
        ways();
        clique();
        cliqueSet();
        free();
        needed();
        tight();
        same();
        together();
        turn();
        objectsAreApart();
        check.finish();
    }

    private static void colours(String name, ChromaticSearch x, int... want) {
        for (int p = 0; p < want.length; p++) {
            check.due("4 " + name + ": colour(" + p + ")", x.colour(p), want[p]);
        }
        check.due("4 " + name + ": colour past the end", x.colour(want.length), ChromaticSearch.BAD);
    }

    private static void newObject() {
        check.due("BAD", ChromaticSearch.BAD, -1);
        int[] points = {Integer.MIN_VALUE, -1, 0, 1, 2, 3, 4, 5, 6, 7, 8, 9, 32, Integer.MAX_VALUE};
        int[] sizes = {1, 1, 1, 1, 2, 3, 4, 5, 6, 7, 8, 8, 8, 8};
        for (int i = 0; i < points.length; i++) {
            String name = "1 new(" + points[i] + "): ";
            ChromaticSearch x = new ChromaticSearch(points[i]);
            check.due(name + "free", x.free(), sizes[i]);
            check.due(name + "chromatic", x.chromatic(), 1);
            check.due(name + "clique", x.clique(), 1);
            check.due(name + "cliqueSet", x.cliqueSet(), 1);
            check.due(name + "ways", x.ways(), 1);
            check.due(name + "last colour", x.colour(sizes[i] - 1), 0);
            check.due(name + "colour past the end", x.colour(sizes[i]), -1);
            check.due(name + "join past the end", x.join(0, sizes[i], true), false);
        }
    }

    private static void join() {
        ChromaticSearch x = new ChromaticSearch(3);
        check.due("2 join", x.join(0, 2, true), true);
        check.due("2 joined", x.together(0, 2), -1);
        check.due("2 joined both ways", x.together(2, 0), -1);
        check.due("2 others are not", x.together(0, 1), 2);
        check.due("2 join again", x.join(2, 0, true), true);
        check.due("2 still joined", x.together(0, 2), -1);
        check.due("2 part the other way round", x.join(2, 0, false), true);
        check.due("2 parted", x.together(0, 2), 1);
        check.due("2 parted both ways", x.together(2, 0), 1);
        check.due("2 part again", x.join(0, 2, false), true);
        check.due("2 still parted", x.chromatic(), 1);
        for (int p = 0; p < 3; p++) {
            check.due("2 join with itself", x.join(p, p, true), false);
            check.due("2 part from itself", x.join(p, p, false), false);
        }
        for (int p : FAR) {
            check.due("2 join far, first", x.join(p, 0, true), false);
            check.due("2 join far, second", x.join(1, p, true), false);
            check.due("2 join far with itself", x.join(p, p, true), false);
        }
        check.due("2 join 3, first", x.join(3, 0, true), false);
        check.due("2 join 3, second", x.join(0, 3, true), false);
        check.due("2 refusals change nothing: chromatic", x.chromatic(), 1);
        check.due("2 refusals change nothing: free", x.free(), 3);
        ChromaticSearch full = Graphs.complete(3);
        for (int p : FAR) {
            check.due("2 part far, first", full.join(p, 0, false), false);
            check.due("2 part far, second", full.join(1, p, false), false);
        }
        check.due("2 refusals change nothing: clique", full.clique(), 3);
    }

    private static void chromatic() {
        for (int n = 1; n <= 8; n++) {
            check.due("3 complete " + n, Graphs.complete(n).chromatic(), n);
        }
        for (int n = 3; n <= 8; n++) {
            check.due("3 ring " + n, Graphs.ring(n).chromatic(), n % 2 == 0 ? 2 : 3);
        }
        check.due("3 wheel of 6", Graphs.wheel(6).chromatic(), 4);
        check.due("3 wheel of 7", Graphs.wheel(7).chromatic(), 3);
        check.due("3 one join among 8", Graphs.of(8, 6, 7).chromatic(), 2);
        // A first fit in the order of the points would spend three colours here.
        check.due("3 path 0 2 3 1", Graphs.of(4, 0, 2, 2, 3, 3, 1).chromatic(), 2);
        // More colours than the largest clique has points.
        ChromaticSearch y = Graphs.of(7, 0, 1, 1, 2, 2, 3, 3, 4, 4, 0, 5, 6);
        for (int p = 0; p < 5; p++) {
            y.join(p, 5, true);
            y.join(p, 6, true);
        }
        check.due("3 ring of 5 and two points joined to all", y.chromatic(), 5);
        check.due("3 its clique", y.clique(), 4);
    }

    private static void colour() {
        colours("ring 5", Graphs.ring(5), 0, 1, 0, 1, 2);
        colours("ring 8", Graphs.ring(8), 0, 1, 0, 1, 0, 1, 0, 1);
        colours("complete 8", Graphs.complete(8), 0, 1, 2, 3, 4, 5, 6, 7);
        colours("no joins", new ChromaticSearch(4), 0, 0, 0, 0);
        // A first fit would give point 1 the colour 0, and then three colours are spent.
        colours("path 0 2 3 1", Graphs.of(4, 0, 2, 2, 3, 3, 1), 0, 1, 1, 0);
        colours("wheel of 6", Graphs.wheel(6), 0, 1, 0, 1, 2, 3);
        // The points that are joined come last.
        colours("one join among 8", Graphs.of(8, 6, 7), 0, 0, 0, 0, 0, 0, 0, 1);
        ChromaticSearch x = Graphs.ring(5);
        for (int p : FAR) {
            check.due("4 colour(" + p + ")", x.colour(p), -1);
        }
        for (int p = 5; p < 9; p++) {
            check.due("4 colour(" + p + ") of 5", x.colour(p), -1);
        }
    }

    private static void ways() {
        int factorial = 1;
        for (int n = 1; n <= 8; n++) {
            factorial *= n;
            check.due("5 complete " + n, Graphs.complete(n).ways(), factorial);
        }
        check.due("5 no joins", new ChromaticSearch(8).ways(), 1);
        check.due("5 ring 4", Graphs.ring(4).ways(), 2);
        check.due("5 ring 5", Graphs.ring(5).ways(), 30);
        check.due("5 ring 7", Graphs.ring(7).ways(), 126);
        check.due("5 one join among 8", Graphs.of(8, 0, 1).ways(), 128);
        check.due("5 triangle among 8", Graphs.of(8, 0, 1, 1, 2, 0, 2).ways(), 6 * 243);
        check.due("5 four complete among 8", Graphs.of(8, 0, 1, 0, 2, 0, 3, 1, 2, 1, 3, 2, 3).ways(), 24 * 256);
    }

    private static void clique() {
        for (int n = 1; n <= 8; n++) {
            check.due("6 complete " + n, Graphs.complete(n).clique(), n);
            check.due("6 no joins " + n, new ChromaticSearch(n).clique(), 1);
        }
        check.due("6 ring 5", Graphs.ring(5).clique(), 2);
        check.due("6 wheel of 6", Graphs.wheel(6).clique(), 3);
        check.due("6 two triangles", Graphs.of(6, 0, 1, 1, 2, 2, 0, 3, 4, 4, 5, 5, 3).clique(), 3);
        check.due("6 square with one diagonal", Graphs.of(4, 0, 1, 1, 2, 2, 3, 3, 0, 1, 3).clique(), 3);
    }

    private static void cliqueSet() {
        check.due("7 one point", new ChromaticSearch(1).cliqueSet(), 1);
        check.due("7 no joins", new ChromaticSearch(8).cliqueSet(), 1);
        check.due("7 complete 8", Graphs.complete(8).cliqueSet(), 255);
        check.due("7 one join among 8", Graphs.of(8, 6, 7).cliqueSet(), 192);
        check.due("7 smallest number, not smallest point", Graphs.of(8, 0, 7, 3, 4).cliqueSet(), 24);
        check.due("7 larger before smaller number", Graphs.of(8, 0, 1, 5, 6, 6, 7, 7, 5).cliqueSet(), 224);
        check.due("7 wheel of 6", Graphs.wheel(6).cliqueSet(), 35);
        check.due("7 square with one diagonal", Graphs.of(4, 0, 1, 1, 2, 2, 3, 3, 0, 1, 3).cliqueSet(), 11);
    }

    private static void free() {
        for (int n = 1; n <= 8; n++) {
            check.due("8 complete " + n, Graphs.complete(n).free(), 1);
            check.due("8 no joins " + n, new ChromaticSearch(n).free(), n);
        }
        check.due("8 ring 5", Graphs.ring(5).free(), 2);
        check.due("8 ring 8", Graphs.ring(8).free(), 4);
        check.due("8 star", Graphs.of(6, 5, 0, 5, 1, 5, 2, 5, 3, 5, 4).free(), 5);
        check.due("8 one join among 8", Graphs.of(8, 6, 7).free(), 7);
    }

    private static void needed() {
        check.due("9 the only point", new ChromaticSearch(1).needed(0), true);
        check.due("9 two apart", new ChromaticSearch(2).needed(0), false);
        check.due("9 two joined", Graphs.of(2, 0, 1).needed(1), true);
        for (int p = 0; p < 7; p++) {
            check.due("9 ring 7", Graphs.ring(7).needed(p), true);
            check.due("9 ring 6", Graphs.ring(6).needed(p), false);
            check.due("9 complete 7", Graphs.complete(7).needed(p), true);
        }
        ChromaticSearch x = Graphs.of(5, 0, 1, 1, 2, 2, 0, 2, 3);
        boolean[] want = {true, true, true, false, false};
        for (int p = 0; p < 5; p++) {
            check.due("9 triangle with a tail: needed(" + p + ")", x.needed(p), want[p]);
        }
        for (int p : FAR) {
            check.due("9 needed(" + p + ")", x.needed(p), false);
            check.due("9 one point: needed(" + p + ")", new ChromaticSearch(1).needed(p), false);
        }
        check.due("9 needed(5) of 5", x.needed(5), false);
        check.due("9 needed(1) of 1", new ChromaticSearch(1).needed(1), false);
        check.due("9 a question changes nothing: ways", x.ways(), 6 * 2 * 3);
        check.due("9 a question changes nothing: joined", x.together(2, 3), -1);
    }

    private static void tight() {
        ChromaticSearch x = Graphs.of(5, 0, 1, 1, 2, 2, 0, 2, 3);
        check.due("10 in the triangle", x.tight(0, 1), true);
        check.due("10 the other way round", x.tight(1, 0), true);
        check.due("10 the tail", x.tight(2, 3), false);
        check.due("10 not joined", x.tight(3, 4), false);
        check.due("10 a point and itself", x.tight(1, 1), false);
        check.due("10 one point", new ChromaticSearch(1).tight(0, 0), false);
        check.due("10 two joined", Graphs.of(2, 0, 1).tight(0, 1), true);
        check.due("10 two apart", new ChromaticSearch(2).tight(0, 1), false);
        check.due("10 two pairs", Graphs.of(4, 0, 1, 2, 3).tight(0, 1), false);
        check.due("10 ring 7", Graphs.ring(7).tight(6, 0), true);
        check.due("10 ring 8", Graphs.ring(8).tight(7, 0), false);
        check.due("10 complete 8", Graphs.complete(8).tight(3, 7), true);
        for (int p : FAR) {
            check.due("10 far, first", x.tight(p, 1), false);
            check.due("10 far, second", x.tight(1, p), false);
            check.due("10 far, both", x.tight(p, p), false);
        }
        check.due("10 tight(5, 0) of 5", x.tight(5, 0), false);
        check.due("10 tight(0, 5) of 5", x.tight(0, 5), false);
        check.due("10 a question changes nothing", x.chromatic(), 3);
        check.due("10 a question changes nothing: joined", x.together(0, 1), -1);
    }

    private static void same() {
        check.due("11 one point", new ChromaticSearch(1).same(0, 0), true);
        check.due("11 no joins", new ChromaticSearch(8).same(0, 7), true);
        check.due("11 ring 6, two apart", Graphs.ring(6).same(1, 5), true);
        check.due("11 ring 6, three apart", Graphs.ring(6).same(1, 4), false);
        check.due("11 ring 6, joined", Graphs.ring(6).same(0, 1), false);
        check.due("11 ring 5", Graphs.ring(5).same(0, 2), false);
        ChromaticSearch x = Graphs.of(5, 0, 1, 1, 2, 2, 0, 1, 3, 2, 3);
        check.due("11 two triangles on one side", x.same(0, 3), true);
        check.due("11 the other way round", x.same(3, 0), true);
        check.due("11 a loose point", x.same(0, 4), false);
        for (int p = 0; p < 5; p++) {
            check.due("11 a point and itself", x.same(p, p), true);
        }
        for (int p : FAR) {
            check.due("11 far, first", x.same(p, 1), false);
            check.due("11 far, second", x.same(1, p), false);
            check.due("11 far, both", x.same(p, p), false);
        }
        check.due("11 same(5, 5) of 5", x.same(5, 5), false);
        check.due("11 same(0, 5) of 5", x.same(0, 5), false);
        check.due("11 same(5, 0) of 5", x.same(5, 0), false);
        check.due("11 a question changes nothing", x.chromatic(), 3);
        check.due("11 a question changes nothing: not joined", x.together(0, 3), 3);
    }

    private static void together() {
        check.due("12 one point", new ChromaticSearch(1).together(0, 0), 1);
        check.due("12 no joins", new ChromaticSearch(8).together(0, 7), 1);
        check.due("12 joined", Graphs.ring(6).together(5, 0), -1);
        check.due("12 ring 6, two apart", Graphs.ring(6).together(0, 2), 2);
        check.due("12 ring 6, three apart", Graphs.ring(6).together(0, 3), 3);
        check.due("12 path of 4 from end to end", Graphs.of(4, 0, 1, 1, 2, 2, 3).together(0, 3), 3);
        check.due("12 a point and itself", Graphs.ring(5).together(3, 3), 3);
        check.due("12 a point and itself, complete", Graphs.complete(8).together(3, 3), 8);
        // Triangles 1 2 3 and 2 3 4 side by side, with a tail at each end.
        ChromaticSearch x = Graphs.of(6, 0, 1, 1, 2, 3, 4, 4, 5, 2, 3, 2, 4, 1, 3);
        check.due("12 a strip: chromatic", x.chromatic(), 3);
        check.due("12 a strip: 1 and 4", x.together(1, 4), 3);
        check.due("12 a strip: 0 and 4", x.together(0, 4), 4);
        // Merged, points 0 and 7 close a complete graph of 4.
        ChromaticSearch y = Graphs.of(8, 1, 2, 2, 3, 3, 1, 0, 1, 0, 2, 7, 3);
        check.due("12 two halves: chromatic", y.chromatic(), 3);
        check.due("12 two halves: 0 and 7", y.together(0, 7), 4);
        check.due("12 two halves: 7 and 0", y.together(7, 0), 4);
        check.due("12 two halves: 0 and 3", y.together(0, 3), 3);
        for (int p : FAR) {
            check.due("12 far, first", y.together(p, 1), -1);
            check.due("12 far, second", y.together(1, p), -1);
            check.due("12 far, both", y.together(p, p), -1);
        }
        check.due("12 together(6, 6) of 6", x.together(6, 6), -1);
        check.due("12 together(0, 6) of 6", x.together(0, 6), -1);
        check.due("12 together(6, 0) of 6", x.together(6, 0), -1);
        check.due("12 a question changes nothing", y.chromatic(), 3);
        check.due("12 a question changes nothing: not joined", y.together(0, 3), 3);
    }

    private static void turn() {
        for (int n = 1; n <= 8; n++) {
            ChromaticSearch x = new ChromaticSearch(n);
            x.turn();
            check.due("13 no joins turned: chromatic", x.chromatic(), n);
            check.due("13 no joins turned: cliqueSet", x.cliqueSet(), (1 << n) - 1);
            check.due("13 no joins turned: free", x.free(), 1);
            check.due("13 a point and itself stay apart", x.together(0, 0), n);
            x.turn();
            check.due("13 turned twice: chromatic", x.chromatic(), 1);
            check.due("13 turned twice: free", x.free(), n);
        }
        ChromaticSearch x = Graphs.of(4, 0, 1, 1, 2, 2, 3);
        x.turn();
        check.due("13 path turned: 0 and 1", x.together(0, 1), 2);
        check.due("13 path turned: 0 and 2", x.together(0, 2), -1);
        check.due("13 path turned: 0 and 3", x.together(0, 3), -1);
        check.due("13 path turned: 1 and 3", x.together(1, 3), -1);
        check.due("13 path turned: 2 and 3", x.together(2, 3), 2);
        check.due("13 join after turn", x.join(0, 1, true), true);
        check.due("13 triangle 0 1 3", x.cliqueSet(), 11);
    }

    private static void objectsAreApart() {
        ChromaticSearch x = new ChromaticSearch(4);
        ChromaticSearch y = new ChromaticSearch(4);
        x.turn();
        check.due("1 another object has its own joins", y.chromatic(), 1);
        check.due("1 this one has its own", x.chromatic(), 4);
    }
}
