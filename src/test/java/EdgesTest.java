/**
 * A test for each sentence of the document that names a boundary; the answers are worked out by hand.
 * EmptyAndFullTest (no two points joined, any two joined) and RefusedCallsTest (what a refused call leaves alone) add
 * to it.
 */
public final class EdgesTest {
    private static final int BAD = ChromaticSearch.BAD;
    private static final Check check = new Check();

    public static void main(String[] args) {
        useFor512Calls();
        oneToEightPointsFromZero();
        differentPointsJoinedOrNot();
        joinedPointsDiffer();
        coloursAreJustZeroToKLessOne();
        smallestNumberOfColours();
        orderOfColourings();
        anyTwoOfACliqueAreJoined();
        noTwoOfAFreeSetAreJoined();
        bitPSpeaksOfPointP();
        newClampsBelowOne();
        newClampsAboveEight();
        newKeepsOneToEight();
        newJoinsNoTwo();
        joinJoins();
        joinParts();
        joinRefusesFirstOutside();
        joinRefusesSecondOutside();
        joinRefusesBothOutside();
        joinRefusesSamePoint();
        joinElseTrue();
        colourOutside();
        colourInside();
        cliqueSetSmallestNumber();
        cliqueSetLargestFirst();
        neededWithOnePoint();
        neededOutside();
        tightNotJoined();
        tightOutside();
        tightSamePoint();
        sameOutside();
        sameInEveryColouring();
        togetherJoined();
        togetherOutside();
        turnTurnsOver();
        turnLeavesSamePoint();
        turnKeepsToThePoints();
        check.finish();
    }

    private static ChromaticSearch[] someGraphs(int n) {
        return new ChromaticSearch[] {new ChromaticSearch(n), Graphs.complete(n), Graphs.ring(n), Graphs.wheel(n)};
    }

    private static boolean isPair(int a, int b, int u, int v) {
        return a == u && b == v || a == v && b == u;
    }

    private static void useFor512Calls() {
        check.sentence("an object is used for at most 512 calls");
        int kinds = 11;
        for (int kind = 0; kind < kinds; kind++) {
            ChromaticSearch x = Graphs.ring(5);
            for (int call = 6; call < 508; call += 2) {
                x.turn();
                x.turn();
            }
            check.due("call 508: parts", x.join(0, 4, false), true);
            check.due("call 509", x.chromatic(), 2);
            check.due("call 510: joins", x.join(0, 4, true), true);
            check.due("call 511: refused", x.join(0, 0, true), false);
            callNumber512(kind, x);
        }
    }

    private static void callNumber512(int kind, ChromaticSearch x) {
        switch (kind) {
            case 0: check.due("call 512: join", x.join(1, 3, true), true); break;
            case 1: check.due("call 512: chromatic", x.chromatic(), 3); break;
            case 2: check.due("call 512: colour", x.colour(4), 2); break;
            case 3: check.due("call 512: ways", x.ways(), 30); break;
            case 4: check.due("call 512: clique", x.clique(), 2); break;
            case 5: check.due("call 512: cliqueSet", x.cliqueSet(), 3); break;
            case 6: check.due("call 512: free", x.free(), 2); break;
            case 7: check.due("call 512: needed", x.needed(4), true); break;
            case 8: check.due("call 512: tight", x.tight(4, 0), true); break;
            case 9: check.due("call 512: same", x.same(0, 2), false); break;
            default: check.due("call 512: together", x.together(0, 2), 3);
        }
    }

    private static void oneToEightPointsFromZero() {
        check.sentence("there are n points (1 to 8), numbered from 0");
        for (int n = 1; n <= 8; n++) {
            ChromaticSearch x = new ChromaticSearch(n);
            check.due(n + ": so many are free", x.free(), n);
            for (int p = -2; p <= 9; p++) {
                check.due(n + ": colour(" + p + ")", x.colour(p), p < 0 || p >= n ? BAD : 0);
            }
        }
    }

    private static void differentPointsJoinedOrNot() {
        check.sentence("two different points are joined or not");
        for (int u = 0; u < 8; u++) {
            for (int v = 0; v < 8; v++) {
                if (u != v) {
                    onlyJoined(Graphs.of(8, u, v), u, v);
                }
            }
        }
    }

    private static void onlyJoined(ChromaticSearch x, int u, int v) {
        for (int a = 0; a < 8; a++) {
            for (int b = 0; b < 8; b++) {
                String name = u + " and " + v + " joined: together(" + a + ", " + b + ")";
                check.due(name, x.together(a, b), isPair(a, b, u, v) ? BAD : 2);
            }
        }
    }

    private static void joinedPointsDiffer() {
        check.sentence("joined points have different colours");
        for (int n = 1; n <= 8; n++) {
            for (ChromaticSearch x : someGraphs(n)) {
                for (int a = 0; a < n; a++) {
                    for (int b = 0; b < n; b++) {
                        boolean joined = x.together(a, b) == BAD;
                        check.due(n + " points: " + a + " and " + b, joined && x.colour(a) == x.colour(b), false);
                    }
                }
            }
        }
    }

    private static void coloursAreJustZeroToKLessOne() {
        check.sentence("it uses k colours iff its colours are just the numbers from 0 to k - 1");
        for (int n = 1; n <= 8; n++) {
            for (ChromaticSearch x : someGraphs(n)) {
                int used = 0;
                for (int p = 0; p < n; p++) {
                    used |= 1 << x.colour(p);
                }
                check.due(n + " points: the colours of all points", used, (1 << x.chromatic()) - 1);
            }
        }
        // Just 0, and not 1 alone; just 0 1 and 1 0, and not 0 2.
        check.due("ways of one point", new ChromaticSearch(1).ways(), 1);
        check.due("ways of eight points apart", new ChromaticSearch(8).ways(), 1);
        check.due("ways of two joined", Graphs.of(2, 0, 1).ways(), 2);
        // Both halves of the points have both colours, either way round: 01 01, 01 10, 10 01, 10 10.
        check.due("ways of two pairs", Graphs.of(4, 0, 1, 2, 3).ways(), 4);
        // Each colour once: six orders; the loose point takes any of the three.
        check.due("ways of a triangle and a loose point", Graphs.of(4, 0, 1, 1, 3, 3, 0).ways(), 18);
    }

    private static void smallestNumberOfColours() {
        check.sentence("the chromatic number is the smallest k");
        for (int n = 3; n <= 8; n++) {
            check.due("ring " + n, Graphs.ring(n).chromatic(), n % 2 == 0 ? 2 : 3);
        }
        for (int n = 4; n <= 8; n++) {
            check.due("wheel " + n, Graphs.wheel(n).chromatic(), n % 2 == 0 ? 4 : 3);
        }
        for (int n = 2; n <= 8; n++) {
            ChromaticSearch x = Graphs.complete(n);
            x.join(0, n - 1, false);
            check.due("all but one pair of " + n, x.chromatic(), n - 1);
        }
        // Here giving each point in turn the first colour that fits spends three colours, and four.
        check.due("three pairs crossed", Graphs.of(6, 0, 3, 0, 5, 2, 1, 2, 5, 4, 1, 4, 3).chromatic(), 2);
        check.due("four pairs crossed", fourPairsCrossed().chromatic(), 2);
    }

    /** Even points are joined to all odd points but the one that follows. */
    private static ChromaticSearch fourPairsCrossed() {
        ChromaticSearch x = new ChromaticSearch(8);
        for (int u = 0; u < 8; u += 2) {
            for (int v = 1; v < 8; v += 2) {
                x.join(u, v, v != u + 1);
            }
        }
        return x;
    }

    private static void orderOfColourings() {
        check.sentence("ordered by the colour of point 0, then of point 1, and so on, the smaller first");
        // By the last point first it would be 1 0 0.
        colours("0 and 2 of three", Graphs.of(3, 0, 2), 0, 0, 1);
        // By the last point first it would be 1 1 0.
        colours("0 and 2, 1 and 2", Graphs.of(3, 0, 2, 1, 2), 0, 0, 1);
        // The greater first would be 1 0.
        colours("two joined", Graphs.of(2, 0, 1), 0, 1);
        // 0 1 0 2 1, 0 1 2 0 1 and others come later.
        colours("ring 5", Graphs.ring(5), 0, 1, 0, 1, 2);
        colours("ring 7", Graphs.ring(7), 0, 1, 0, 1, 0, 1, 2);
        // The new colour comes as late as can be, by the last point alone.
        colours("0 and 7 of eight", Graphs.of(8, 0, 7), 0, 0, 0, 0, 0, 0, 0, 1);
        // Point 1 could be 0 for itself, but then two colours do not do.
        colours("path 0 2 3 1", Graphs.of(4, 0, 2, 2, 3, 3, 1), 0, 1, 1, 0);
        colours("four pairs crossed", fourPairsCrossed(), 0, 1, 0, 1, 0, 1, 0, 1);
        // Points 0 to 3 are 0 0 0 1 at the least; then 4 is 2 and 5 may be 0.
        colours("triangle 2 3 4", Graphs.of(6, 2, 3, 3, 4, 4, 2), 0, 0, 0, 1, 2, 0);
    }

    private static void colours(String name, ChromaticSearch x, int... want) {
        for (int p = 0; p < want.length; p++) {
            check.due(name + ": colour(" + p + ")", x.colour(p), want[p]);
        }
    }

    private static void anyTwoOfACliqueAreJoined() {
        check.sentence("a clique is a set of points any two of which are joined");
        check.due("one point", new ChromaticSearch(1).clique(), 1);
        check.due("two apart", new ChromaticSearch(2).clique(), 1);
        check.due("two joined", Graphs.of(2, 0, 1).clique(), 2);
        check.due("path of three", Graphs.of(3, 0, 1, 1, 2).clique(), 2);
        for (int n = 2; n <= 8; n++) {
            for (int u = 0; u < n; u++) {
                for (int v = 0; v < u; v++) {
                    ChromaticSearch x = Graphs.complete(n);
                    x.join(u, v, false);
                    check.due("all of " + n + " but " + u + " and " + v, x.clique(), n - 1);
                }
            }
        }
    }

    private static void noTwoOfAFreeSetAreJoined() {
        check.sentence("a free set is one no two of which are");
        check.due("one point", new ChromaticSearch(1).free(), 1);
        check.due("two joined", Graphs.of(2, 0, 1).free(), 1);
        check.due("two apart", new ChromaticSearch(2).free(), 2);
        check.due("path of three", Graphs.of(3, 0, 1, 1, 2).free(), 2);
        check.due("triangle", Graphs.ring(3).free(), 1);
        for (int u = 0; u < 8; u++) {
            for (int v = 0; v < u; v++) {
                check.due("none of 8 but " + u + " and " + v, Graphs.of(8, u, v).free(), 7);
            }
        }
    }

    private static void bitPSpeaksOfPointP() {
        check.sentence("sets of points are written as numbers whose bit p speaks of point p");
        for (int u = 0; u < 8; u++) {
            for (int v = 0; v < u; v++) {
                check.due("just " + u + " and " + v, Graphs.of(8, u, v).cliqueSet(), 1 << u | 1 << v);
            }
        }
        check.due("the only point", new ChromaticSearch(1).cliqueSet(), 1);
        check.due("all eight", Graphs.complete(8).cliqueSet(), 255);
    }

    private static void newClampsBelowOne() {
        check.sentence("1 points below 1 are clamped to 1");
        int[] points = {0, -1, -2, -7, -8, -9, -31, -32, -249, -255, -256, -65531, -65536, Integer.MIN_VALUE + 5,
            Integer.MIN_VALUE + 1, Integer.MIN_VALUE};
        for (int n : points) {
            ChromaticSearch x = new ChromaticSearch(n);
            check.due(n + ": free()", x.free(), 1);
            check.due(n + ": colour(0)", x.colour(0), 0);
            check.due(n + ": colour(1)", x.colour(1), BAD);
            check.due(n + ": needed(0)", x.needed(0), true);
            check.due(n + ": join(0, 1, true)", x.join(0, 1, true), false);
        }
    }

    private static void newClampsAboveEight() {
        check.sentence("1 points above 8 are clamped to 8");
        int[] points = {9, 10, 15, 16, 17, 31, 32, 33, 64, 128, 255, 256, 261, 65536, 65541, Integer.MAX_VALUE - 1,
            Integer.MAX_VALUE};
        for (int n : points) {
            ChromaticSearch x = new ChromaticSearch(n);
            check.due(n + ": free()", x.free(), 8);
            check.due(n + ": colour(7)", x.colour(7), 0);
            check.due(n + ": colour(8)", x.colour(8), BAD);
            check.due(n + ": join(7, 8, true)", x.join(7, 8, true), false);
            check.due(n + ": join(6, 7, true)", x.join(6, 7, true), true);
            check.due(n + ": cliqueSet()", x.cliqueSet(), 192);
        }
    }

    private static void newKeepsOneToEight() {
        check.sentence("1 points from 1 to 8 are taken as they are");
        for (int n = 1; n <= 8; n++) {
            ChromaticSearch x = new ChromaticSearch(n);
            check.due(n + ": free()", x.free(), n);
            check.due(n + ": the last point", x.colour(n - 1), 0);
            check.due(n + ": past the last point", x.colour(n), BAD);
        }
    }

    private static void newJoinsNoTwo() {
        check.sentence("1 no two points are joined");
        for (int n = 1; n <= 8; n++) {
            ChromaticSearch x = new ChromaticSearch(n);
            for (int u = 0; u < n; u++) {
                for (int v = 0; v < n; v++) {
                    check.due(n + ": together(" + u + ", " + v + ")", x.together(u, v), 1);
                }
            }
        }
        ChromaticSearch other = new ChromaticSearch(8);
        other.turn();
        check.due("nor after another object's were", new ChromaticSearch(8).chromatic(), 1);
    }

    private static void joinJoins() {
        check.sentence("2 joins two points (true)");
        for (int n = 2; n <= 8; n++) {
            ChromaticSearch x = new ChromaticSearch(n);
            check.due(n + ": the first and the last", x.join(0, n - 1, true), true);
            check.due(n + ": are joined", x.together(0, n - 1), BAD);
            check.due(n + ": the other way round too", x.together(n - 1, 0), BAD);
            check.due(n + ": joined once more", x.join(n - 1, 0, true), true);
            check.due(n + ": are still joined", x.together(0, n - 1), BAD);
            check.due(n + ": and no others", x.free(), n - 1);
        }
    }

    private static void joinParts() {
        check.sentence("2 or parts them");
        for (int n = 2; n <= 8; n++) {
            ChromaticSearch x = Graphs.complete(n);
            check.due(n + ": the first and the last", x.join(n - 1, 0, false), true);
            check.due(n + ": are parted", x.together(0, n - 1), n - 1);
            check.due(n + ": the other way round too", x.together(n - 1, 0), n - 1);
            check.due(n + ": parted once more", x.join(0, n - 1, false), true);
            check.due(n + ": are still parted", x.together(0, n - 1), n - 1);
            check.due(n + ": and no others", x.clique(), n - 1);
            ChromaticSearch y = new ChromaticSearch(n);
            check.due(n + ": parted though never joined", y.join(0, n - 1, false), true);
            check.due(n + ": are not joined by that", y.chromatic(), 1);
        }
    }

    private static void joinRefusesFirstOutside() {
        check.sentence("2 u outside 0..n-1: refused, answers false");
        for (int n = 1; n <= 8; n++) {
            ChromaticSearch x = new ChromaticSearch(n);
            for (int u : Outside.all(n)) {
                check.due(n + ": join(" + u + ", 0, true)", x.join(u, 0, true), false);
                check.due(n + ": join(" + u + ", last, true)", x.join(u, n - 1, true), false);
                check.due(n + ": join(" + u + ", 0, false)", x.join(u, 0, false), false);
                check.due(n + ": join(" + u + ", last, false)", x.join(u, n - 1, false), false);
            }
        }
    }

    private static void joinRefusesSecondOutside() {
        check.sentence("2 v outside 0..n-1: refused, answers false");
        for (int n = 1; n <= 8; n++) {
            ChromaticSearch x = new ChromaticSearch(n);
            for (int v : Outside.all(n)) {
                check.due(n + ": join(0, " + v + ", true)", x.join(0, v, true), false);
                check.due(n + ": join(last, " + v + ", true)", x.join(n - 1, v, true), false);
                check.due(n + ": join(0, " + v + ", false)", x.join(0, v, false), false);
                check.due(n + ": join(last, " + v + ", false)", x.join(n - 1, v, false), false);
            }
        }
    }

    private static void joinRefusesBothOutside() {
        check.sentence("2 u and v outside 0..n-1: refused, answers false");
        for (int n = 1; n <= 8; n++) {
            for (int u : Outside.all(n)) {
                ChromaticSearch x = new ChromaticSearch(n);
                for (int v : Outside.all(n)) {
                    check.due(n + ": join(" + u + ", " + v + ", true)", x.join(u, v, true), false);
                    check.due(n + ": join(" + u + ", " + v + ", false)", x.join(u, v, false), false);
                }
            }
        }
    }

    private static void joinRefusesSamePoint() {
        check.sentence("2 u = v: refused, answers false");
        for (int n = 1; n <= 8; n++) {
            for (ChromaticSearch x : someGraphs(n)) {
                for (int p = 0; p < n; p++) {
                    check.due(n + ": join(" + p + ", " + p + ", true)", x.join(p, p, true), false);
                    check.due(n + ": join(" + p + ", " + p + ", false)", x.join(p, p, false), false);
                    check.due(n + ": " + p + " is not joined to itself", x.together(p, p), x.chromatic());
                }
            }
        }
    }

    private static void joinElseTrue() {
        check.sentence("2 else true");
        for (int n = 2; n <= 8; n++) {
            ChromaticSearch x = new ChromaticSearch(n);
            for (int u = 0; u < n; u++) {
                for (int v = 0; v < n; v++) {
                    if (u != v) {
                        check.due(n + ": join(" + u + ", " + v + ", true)", x.join(u, v, true), true);
                        check.due(n + ": join(" + u + ", " + v + ", true) again", x.join(u, v, true), true);
                        check.due(n + ": join(" + u + ", " + v + ", false)", x.join(u, v, false), true);
                        check.due(n + ": join(" + u + ", " + v + ", false) again", x.join(u, v, false), true);
                    }
                }
            }
        }
    }

    private static void colourOutside() {
        check.sentence("4 BAD for p outside 0..n-1");
        for (int n = 1; n <= 8; n++) {
            for (ChromaticSearch x : someGraphs(n)) {
                for (int p : Outside.all(n)) {
                    check.due(n + ": colour(" + p + ")", x.colour(p), -1);
                }
            }
        }
    }

    private static void colourInside() {
        check.sentence("4 no BAD for p inside 0..n-1");
        for (int n = 1; n <= 8; n++) {
            ChromaticSearch x = Graphs.complete(n);
            check.due(n + ": the first point", x.colour(0), 0);
            check.due(n + ": the last point", x.colour(n - 1), n - 1);
        }
    }

    private static void cliqueSetSmallestNumber() {
        check.sentence("7 of the largest cliques the one that is the smallest number");
        check.due("points alone", new ChromaticSearch(8).cliqueSet(), 1);
        // 129 has the smaller point, 24 is the smaller number.
        check.due("0 7 and 3 4", Graphs.of(8, 0, 7, 3, 4).cliqueSet(), 24);
        check.due("4 3 and 7 0", Graphs.of(8, 4, 3, 7, 0).cliqueSet(), 24);
        check.due("0 6 7 and 1 2 6", Graphs.of(8, 0, 6, 6, 7, 7, 0, 1, 2, 2, 6, 6, 1).cliqueSet(), 70);
        check.due("ring 8", Graphs.ring(8).cliqueSet(), 3);
        check.due("0 to 3 and 4 to 7", Graphs.of(8, 0, 1, 0, 2, 0, 3, 1, 2, 1, 3, 2, 3,
                4, 5, 4, 6, 4, 7, 5, 6, 5, 7, 6, 7).cliqueSet(), 15);
        for (int u = 0; u < 8; u++) {
            for (int v = 0; v < u; v++) {
                ChromaticSearch x = Graphs.complete(8);
                x.join(u, v, false);
                // Without u or without v: the number without the greater of them is the smaller.
                check.due("all but " + u + " and " + v, x.cliqueSet(), 255 - (1 << u));
            }
        }
    }

    private static void cliqueSetLargestFirst() {
        check.sentence("7 a larger clique goes before a smaller number");
        check.due("0 1 and 5 6 7", Graphs.of(8, 0, 1, 5, 6, 6, 7, 7, 5).cliqueSet(), 224);
        check.due("6 7 alone", Graphs.of(8, 6, 7).cliqueSet(), 192);
        check.due("0 1 2 and 4 to 7", Graphs.of(8, 0, 1, 1, 2, 2, 0, 4, 5, 4, 6, 4, 7, 5, 6, 5, 7, 6, 7).cliqueSet(),
                240);
    }

    private static void neededWithOnePoint() {
        check.sentence("9 the chromatic number is 0 for no points");
        for (int points : new int[] {1, 0, -1, Integer.MIN_VALUE}) {
            ChromaticSearch x = new ChromaticSearch(points);
            check.due("new(" + points + "): needed(0)", x.needed(0), true);
            x.turn();
            check.due("new(" + points + ") turned: needed(0)", x.needed(0), true);
        }
        check.due("the first of two apart", new ChromaticSearch(2).needed(0), false);
        check.due("the second of two apart", new ChromaticSearch(2).needed(1), false);
        check.due("the first of two joined", Graphs.of(2, 0, 1).needed(0), true);
        check.due("the second of two joined", Graphs.of(2, 0, 1).needed(1), true);
    }

    private static void neededOutside() {
        check.sentence("9 false for p outside 0..n-1");
        for (int n = 1; n <= 8; n++) {
            for (ChromaticSearch x : someGraphs(n)) {
                for (int p : Outside.all(n)) {
                    check.due(n + ": needed(" + p + ")", x.needed(p), false);
                }
            }
        }
    }

    private static void tightNotJoined() {
        check.sentence("10 false if they are not");
        check.due("two apart", new ChromaticSearch(2).tight(0, 1), false);
        check.due("0 and 2 of ring 5", Graphs.ring(5).tight(0, 2), false);
        check.due("2 and 0 of ring 5", Graphs.ring(5).tight(2, 0), false);
        for (int u = 0; u < 8; u++) {
            for (int v = 0; v < u; v++) {
                ChromaticSearch x = Graphs.complete(8);
                check.due(u + " and " + v + " joined", x.tight(u, v), true);
                x.join(u, v, false);
                check.due(u + " and " + v + " parted", x.tight(u, v), false);
                check.due(v + " and " + u + " parted", x.tight(v, u), false);
                x.join(u, v, true);
                check.due(v + " and " + u + " joined", x.tight(v, u), true);
            }
        }
    }

    private static void tightOutside() {
        check.sentence("10 false if a number is outside 0..n-1");
        for (int n = 1; n <= 8; n++) {
            for (int p : Outside.all(n)) {
                for (ChromaticSearch x : someGraphs(n)) {
                    for (int q = 0; q < n; q++) {
                        check.due(n + ": tight(" + p + ", " + q + ")", x.tight(p, q), false);
                        check.due(n + ": tight(" + q + ", " + p + ")", x.tight(q, p), false);
                    }
                    check.due(n + ": tight(" + p + ", " + p + ")", x.tight(p, p), false);
                    check.due(n + ": tight(" + p + ", far)", x.tight(p, p < 0 ? 8 : -1), false);
                }
            }
        }
    }

    private static void tightSamePoint() {
        check.sentence("10 false if u = v");
        for (int n = 1; n <= 8; n++) {
            for (ChromaticSearch x : someGraphs(n)) {
                for (int p = 0; p < n; p++) {
                    check.due(n + ": tight(" + p + ", " + p + ")", x.tight(p, p), false);
                }
            }
        }
    }

    private static void sameOutside() {
        check.sentence("11 false for a number outside 0..n-1");
        for (int n = 1; n <= 8; n++) {
            for (int p : Outside.all(n)) {
                for (ChromaticSearch x : someGraphs(n)) {
                    for (int q = 0; q < n; q++) {
                        check.due(n + ": same(" + p + ", " + q + ")", x.same(p, q), false);
                        check.due(n + ": same(" + q + ", " + p + ")", x.same(q, p), false);
                    }
                    check.due(n + ": same(" + p + ", " + p + ")", x.same(p, p), false);
                    check.due(n + ": same(" + p + ", far)", x.same(p, p < 0 ? 8 : -1), false);
                }
            }
        }
    }

    private static void sameInEveryColouring() {
        check.sentence("11 the same colour in every colouring");
        // 1 and 3 of ring 5 have the same colour in the first colouring, 0 1 0 1 2, but not in 0 1 0 2 1.
        check.due("1 and 3 of ring 5", Graphs.ring(5).same(1, 3), false);
        check.due("0 and 2 of ring 4", Graphs.ring(4).same(0, 2), true);
        check.due("0 and 6 of ring 8", Graphs.ring(8).same(6, 0), true);
        check.due("0 and 7 of ring 8", Graphs.ring(8).same(0, 7), false);
        ChromaticSearch x = Graphs.complete(8);
        x.join(0, 7, false);
        check.due("the two apart of eight", x.same(0, 7), true);
        check.due("two others of eight", x.same(0, 6), false);
        for (int p = 0; p < 8; p++) {
            check.due("a point has its own colour", x.same(p, p), true);
        }
    }

    private static void togetherJoined() {
        check.sentence("12 BAD if they are joined");
        for (int u = 0; u < 8; u++) {
            for (int v = 0; v < u; v++) {
                ChromaticSearch x = Graphs.complete(8);
                check.due(u + " and " + v + " joined", x.together(u, v), -1);
                check.due(v + " and " + u + " joined", x.together(v, u), -1);
                x.join(v, u, false);
                check.due(u + " and " + v + " parted", x.together(u, v), 7);
                check.due(v + " and " + u + " parted", x.together(v, u), 7);
            }
        }
        check.due("the two of two", Graphs.of(2, 0, 1).together(0, 1), -1);
        check.due("ends of a path of 8 joined by one pair", Graphs.ring(8).together(7, 0), -1);
    }

    private static void togetherOutside() {
        check.sentence("12 BAD if a number is outside 0..n-1");
        for (int n = 1; n <= 8; n++) {
            for (int p : Outside.all(n)) {
                for (ChromaticSearch x : someGraphs(n)) {
                    for (int q = 0; q < n; q++) {
                        check.due(n + ": together(" + p + ", " + q + ")", x.together(p, q), -1);
                        check.due(n + ": together(" + q + ", " + p + ")", x.together(q, p), -1);
                    }
                    check.due(n + ": together(" + p + ", " + p + ")", x.together(p, p), -1);
                    check.due(n + ": together(" + p + ", far)", x.together(p, p < 0 ? 8 : -1), -1);
                }
            }
        }
    }

    private static void turnTurnsOver() {
        check.sentence("13 turns over which points are joined");
        for (int u = 0; u < 8; u++) {
            for (int v = 0; v < u; v++) {
                ChromaticSearch x = Graphs.of(8, u, v);
                x.turn();
                for (int a = 0; a < 8; a++) {
                    for (int b = 0; b < a; b++) {
                        String name = u + " and " + v + " joined, turned: together(" + a + ", " + b + ")";
                        check.due(name, x.together(a, b), isPair(a, b, u, v) ? 7 : BAD);
                    }
                }
                x.turn();
                check.due(u + " and " + v + " joined, turned twice: cliqueSet()", x.cliqueSet(), 1 << u | 1 << v);
                check.due(u + " and " + v + " joined, turned twice: free()", x.free(), 7);
            }
        }
    }

    private static void turnLeavesSamePoint() {
        check.sentence("13 different points: a point is not joined to itself");
        for (int n = 1; n <= 8; n++) {
            ChromaticSearch x = new ChromaticSearch(n);
            x.turn();
            for (int p = 0; p < n; p++) {
                check.due(n + " turned: together(" + p + ", " + p + ")", x.together(p, p), n);
                check.due(n + " turned: same(" + p + ", " + p + ")", x.same(p, p), true);
                check.due(n + " turned: tight(" + p + ", " + p + ")", x.tight(p, p), false);
            }
            check.due(n + " turned: free()", x.free(), 1);
            check.due(n + " turned: chromatic()", x.chromatic(), n);
        }
    }

    private static void turnKeepsToThePoints() {
        check.sentence("13 no points beside 0..n-1 come to be joined");
        for (int n = 1; n <= 8; n++) {
            ChromaticSearch x = new ChromaticSearch(n);
            x.turn();
            check.due(n + " turned: clique()", x.clique(), n);
            check.due(n + " turned: cliqueSet()", x.cliqueSet(), (1 << n) - 1);
            check.due(n + " turned: colour(n)", x.colour(n), BAD);
            check.due(n + " turned: join(0, n, false)", x.join(0, n, false), false);
            x.turn();
            check.due(n + " turned twice: clique()", x.clique(), 1);
            check.due(n + " turned twice: free()", x.free(), n);
        }
    }
}
