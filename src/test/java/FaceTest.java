import java.lang.reflect.Constructor;
import java.lang.reflect.Field;
import java.lang.reflect.Method;
import java.lang.reflect.Modifier;
import java.util.Set;
import java.util.TreeSet;

/** The public face is the document's and no more. */
public final class FaceTest {
    public static void main(String[] args) {
        Set<String> want = new TreeSet<>(Set.of(
                "public final class ChromaticSearch",
                "public static final int ChromaticSearch.BAD",
                "public ChromaticSearch(int)",
                "public boolean ChromaticSearch.join(int,int,boolean)",
                "public int ChromaticSearch.chromatic()",
                "public int ChromaticSearch.colour(int)",
                "public int ChromaticSearch.ways()",
                "public int ChromaticSearch.clique()",
                "public int ChromaticSearch.cliqueSet()",
                "public int ChromaticSearch.free()",
                "public boolean ChromaticSearch.needed(int)",
                "public boolean ChromaticSearch.tight(int,int)",
                "public boolean ChromaticSearch.same(int,int)",
                "public int ChromaticSearch.together(int,int)",
                "public void ChromaticSearch.turn()"));
        Set<String> got = face();
        Check check = new Check();
        for (String member : want) {
            check.due(member, got.contains(member), true);
        }
        for (String member : got) {
            check.due(member, want.contains(member), true);
        }
        check.due("BAD", ChromaticSearch.BAD, -1);
        nothingElse(check);
        check.finish();
    }

    /** LANGUAGE.md, rule 1: one class, and no private method that bears the name of a public one. */
    private static void nothingElse(Check check) {
        Class<?> type = ChromaticSearch.class;
        check.due("extends Object alone", type.getSuperclass() == Object.class, true);
        check.due("interfaces", type.getInterfaces().length, 0);
        check.due("nested classes", type.getDeclaredClasses().length, 0);
        Set<String> open = new TreeSet<>();
        for (Method method : type.getMethods()) {
            open.add(method.getName());
        }
        for (Method method : type.getDeclaredMethods()) {
            if (Modifier.isPrivate(method.getModifiers())) {
                check.due("private " + method.getName() + " has a public name", open.contains(method.getName()), false);
            }
        }
    }

    private static Set<String> face() {
        Class<?> type = ChromaticSearch.class;
        Set<String> got = new TreeSet<>();
        got.add(Modifier.toString(type.getModifiers()) + " class " + type.getName());
        for (Field field : type.getDeclaredFields()) {
            if (!Modifier.isPrivate(field.getModifiers())) {
                got.add(field.toString());
            }
        }
        for (Constructor<?> constructor : type.getDeclaredConstructors()) {
            if (!Modifier.isPrivate(constructor.getModifiers())) {
                got.add(constructor.toString());
            }
        }
        for (Method method : type.getDeclaredMethods()) {
            if (!Modifier.isPrivate(method.getModifiers())) {
                got.add(method.toString());
            }
        }
        return got;
    }
}
