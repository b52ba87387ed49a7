import java.util.ArrayList;
import java.util.List;
import java.util.function.Consumer;
import java.util.function.Supplier;

/**
 * A refused call, and a question, changes nothing that later calls show: everything that an object answers after one,
 * and after a turn, is what an object answers that never had it. Each call has an object of its own, so none is used
 * for more than 512 calls.
 */
public final class RefusedCallsTest {
    private static final Check check = new Check();

    public static void main(String[] args) {
        for (int n : new int[] {1, 2, 5, 8}) {
            compareAll("no joins, ", n, () -> new ChromaticSearch(n));
            compareAll("complete, ", n, () -> Graphs.complete(n));
        }
        compareAll("ring, ", 5, () -> Graphs.ring(5));
        compareAll("ring, ", 7, () -> Graphs.ring(7));
        compareAll("wheel, ", 8, () -> Graphs.wheel(8));
        compareAll("triangle with a tail, ", 6, () -> Graphs.of(6, 0, 5, 5, 3, 3, 0, 3, 1));
        check.finish();
    }

    private static void compareAll(String graph, int n, Supplier<ChromaticSearch> make) {
        List<Integer> untouched = show(make.get());
        for (boolean joined : new boolean[] {true, false}) {
            check.sentence("2 a refused join changes nothing");
            String last = ", " + joined;
            refused(graph + n + ": join", last, n, untouched, make, (x, u, v) -> x.join(u, v, joined));
            for (int p = 0; p < n; p++) {
                int u = p;
                compare(graph + n + ": join(" + u + ", " + u + last + ")", untouched, make, x -> x.join(u, u, joined));
            }
        }
        check.sentence("4 a colour that is BAD changes nothing");
        refusedOne(graph + n + ": colour", n, untouched, make, (x, p) -> x.colour(p));
        check.sentence("9 a needed that is false for its number changes nothing");
        refusedOne(graph + n + ": needed", n, untouched, make, (x, p) -> x.needed(p));
        check.sentence("10 a tight that is false for its numbers changes nothing");
        refused(graph + n + ": tight", "", n, untouched, make, (x, u, v) -> x.tight(u, v));
        check.sentence("11 a same that is false for its numbers changes nothing");
        refused(graph + n + ": same", "", n, untouched, make, (x, u, v) -> x.same(u, v));
        check.sentence("12 a together that is BAD changes nothing");
        refused(graph + n + ": together", "", n, untouched, make, (x, u, v) -> x.together(u, v));
        questions(graph + n + ": ", n, untouched, make);
    }

    private static void questions(String name, int n, List<Integer> untouched, Supplier<ChromaticSearch> make) {
        check.sentence("3 to 12 a question changes nothing");
        compare(name + "chromatic()", untouched, make, x -> x.chromatic());
        compare(name + "ways()", untouched, make, x -> x.ways());
        compare(name + "clique()", untouched, make, x -> x.clique());
        compare(name + "cliqueSet()", untouched, make, x -> x.cliqueSet());
        compare(name + "free()", untouched, make, x -> x.free());
        for (int p = 0; p < n; p++) {
            int u = p;
            compare(name + "colour(" + u + ")", untouched, make, x -> x.colour(u));
            compare(name + "needed(" + u + ")", untouched, make, x -> x.needed(u));
            for (int q = 0; q < n; q++) {
                int v = q;
                String pair = "(" + u + ", " + v + ")";
                compare(name + "tight" + pair, untouched, make, x -> x.tight(u, v));
                compare(name + "same" + pair, untouched, make, x -> x.same(u, v));
                compare(name + "together" + pair, untouched, make, x -> x.together(u, v));
            }
        }
    }

    private interface OneNumber {
        void on(ChromaticSearch x, int p);
    }

    private interface TwoNumbers {
        void on(ChromaticSearch x, int u, int v);
    }

    private static void refusedOne(String name, int n, List<Integer> untouched,
            Supplier<ChromaticSearch> make, OneNumber call) {
        for (int p : Outside.all(n)) {
            compare(name + "(" + p + ")", untouched, make, x -> call.on(x, p));
        }
    }

    private static void refused(String name, String last, int n, List<Integer> untouched,
            Supplier<ChromaticSearch> make, TwoNumbers call) {
        for (int p : Outside.all(n)) {
            for (int inside : new int[] {0, n - 1}) {
                compare(name + "(" + p + ", " + inside + last + ")", untouched, make, x -> call.on(x, p, inside));
                compare(name + "(" + inside + ", " + p + last + ")", untouched, make, x -> call.on(x, inside, p));
            }
            compare(name + "(" + p + ", " + p + last + ")", untouched, make, x -> call.on(x, p, p));
            int other = p == -1 ? 8 : -1;
            compare(name + "(" + p + ", " + other + last + ")", untouched, make, x -> call.on(x, p, other));
        }
    }

    private static void compare(String name, List<Integer> untouched, Supplier<ChromaticSearch> make,
            Consumer<ChromaticSearch> call) {
        ChromaticSearch x = make.get();
        call.accept(x);
        check.due(name + ": all later answers are as without it", show(x).equals(untouched), true);
    }

    /** All that an object shows, and once more after a turn. */
    private static List<Integer> show(ChromaticSearch x) {
        List<Integer> answers = new ArrayList<>();
        showOnce(answers, x);
        x.turn();
        showOnce(answers, x);
        return answers;
    }

    /** At most 213 calls: with the making, the call and the turn two of these stay below 512. */
    private static void showOnce(List<Integer> answers, ChromaticSearch x) {
        answers.add(x.chromatic());
        answers.add(x.ways());
        answers.add(x.clique());
        answers.add(x.cliqueSet());
        answers.add(x.free());
        for (int u = 0; u < 8; u++) {
            answers.add(x.colour(u));
            answers.add(x.needed(u) ? 1 : 0);
            for (int v = 0; v < 8; v++) {
                answers.add(x.tight(u, v) ? 1 : 0);
                answers.add(x.same(u, v) ? 1 : 0);
                answers.add(x.together(u, v));
            }
        }
    }
}
