/** The example of README.md, call by call. */
public final class ReadmeTest {
    public static void main(String[] args) {
        Check check = new Check();
        ChromaticSearch x = new ChromaticSearch(5);
        for (int p = 0; p < 5; p++) {
            check.due("join(" + p + ", " + (p + 1) % 5 + ", true)", x.join(p, (p + 1) % 5, true), true);
        }
        check.due("chromatic()", x.chromatic(), 3);
        check.due("colour(4)", x.colour(4), 2);
        check.due("ways()", x.ways(), 30);
        check.due("clique()", x.clique(), 2);
        check.due("cliqueSet()", x.cliqueSet(), 3);
        check.due("free()", x.free(), 2);
        check.due("needed(2)", x.needed(2), true);
        check.due("tight(0, 1)", x.tight(0, 1), true);
        check.due("same(0, 2)", x.same(0, 2), false);
        check.due("together(0, 2)", x.together(0, 2), 3);
        check.due("together(0, 1)", x.together(0, 1), ChromaticSearch.BAD);
        check.due("join(0, 0, true)", x.join(0, 0, true), false);
        check.due("colour(5)", x.colour(5), ChromaticSearch.BAD);
        x.turn();
        check.due("turned: together(0, 1)", x.together(0, 1), 3);
        check.due("turned: together(0, 2)", x.together(0, 2), ChromaticSearch.BAD);
        check.finish();
    }
}
