import java.io.IOException;
import java.lang.reflect.Constructor;
import java.lang.reflect.Executable;
import java.lang.reflect.Field;
import java.lang.reflect.Member;
import java.lang.reflect.Method;
import java.lang.reflect.Modifier;
import java.nio.file.Files;
import java.nio.file.Path;
import java.util.ArrayList;
import java.util.Arrays;
import java.util.List;
import java.util.Set;
import java.util.TreeSet;
import java.util.stream.Collectors;

/** The face as the document has it, and those rules of LANGUAGE.md that can be seen from outside. */
public final class FaceTests {
    private static final Check CHECK = new Check();
    private static final String[] FACE = {
        "int node(int) IO IS", "boolean block(int,boolean) IO", "int move(int,int) IO", "int machine(int) IO IS",
        "int fact(int,int,int) IO IA", "int group() IS", "boolean joins(int,int,boolean) IO",
        "boolean within(int,int,boolean) IO", "boolean member(int,int) IO", "int set() IS",
        "boolean tell(int,int,int) IO IA", "boolean untell(int,int) IO IA", "int law(int,int) IA",
        "int feed(int,int,int,int,int)", "int link(int,int,int,boolean,int) IO IA IS", "int fault()",
        "boolean end(int) IO", "int outcome(int,int) IO IA", "int value(int,int,int) IO IA",
        "int reason(int,int) IO IA", "int beaten(int,int,int) IO IA", "boolean sure(int,int) IO IA",
        "int reach(int) IO", "int reached(int,int,int) IO IA", "int quarrels()", "int quarrel(int,int) IA",
        "int count(int)"
    };

    public static void main(String[] args) throws IOException {
        face();
        members();
        classes();
        words();
        CHECK.finish();
    }

    private static void due(String what, Object got, Object want) {
        CHECK.due(what + ": " + got + " for " + want, got.equals(want), true);
    }

    private static void none(String what, List<?> found) {
        due(what, found, List.of());
    }

    private static void face() {
        CHECK.part("face");
        Set<String> found = new TreeSet<>();
        for (Method m : PolicyTree.class.getDeclaredMethods()) {
            if (Modifier.isPublic(m.getModifiers())) {
                found.add(told(m));
            }
        }
        due("public methods", found, new TreeSet<>(Arrays.asList(FACE)));
        due("class", PolicyTree.class.getModifiers() & (Modifier.PUBLIC | Modifier.FINAL), Modifier.PUBLIC | Modifier.FINAL);
        Constructor<?>[] made = PolicyTree.class.getDeclaredConstructors();
        due("constructors", made.length, 1);
        due("its parameters", made[0].getParameterCount(), 0);
        due("it is public", Modifier.isPublic(made[0].getModifiers()), true);
    }

    private static String told(Method m) {
        String types = Arrays.stream(m.getParameterTypes()).map(Class::getSimpleName).collect(Collectors.joining(","));
        String thrown = Arrays.stream(m.getExceptionTypes()).map(FaceTests::shortName).collect(Collectors.joining());
        return m.getReturnType().getSimpleName() + " " + m.getName() + "(" + types + ")" + thrown;
    }

    private static String shortName(Class<?> thrown) {
        return thrown == IndexOutOfBoundsException.class ? " IO" : thrown == IllegalArgumentException.class ? " IA"
                : thrown == IllegalStateException.class ? " IS" : " " + thrown.getName();
    }

    private static void members() {
        CHECK.part("members");
        List<Member> all = new ArrayList<>(Arrays.asList(PolicyTree.class.getDeclaredMethods()));
        all.addAll(Arrays.asList(PolicyTree.class.getDeclaredFields()));
        List<String> seen = new ArrayList<>();
        Set<String> names = new TreeSet<>();
        for (Member m : all) {
            int mods = m.getModifiers();
            if (!Modifier.isPrivate(mods) && !Modifier.isPublic(mods)) {
                seen.add(m.getName());
            }
            if (Modifier.isPublic(mods)) {
                names.add(m.getName());
            }
        }
        none("neither public nor private", seen);
        List<String> alike = new ArrayList<>();
        for (Method m : PolicyTree.class.getDeclaredMethods()) {
            if (!Modifier.isPublic(m.getModifiers()) && names.contains(m.getName())) {
                alike.add(m.getName());
            }
        }
        none("private, with a public name", alike);
        List<String> constants = new ArrayList<>();
        for (Field f : PolicyTree.class.getFields()) {
            constants.add(f.getName());
        }
        due("constants", constants, List.of("NONE"));
    }

    private static void classes() {
        CHECK.part("classes");
        List<Class<?>> all = new ArrayList<>(Arrays.asList(PolicyTree.class.getDeclaredClasses()));
        for (Class<?> c : all) {
            due(c + " is static", Modifier.isStatic(c.getModifiers()), true);
            due(c + " is hidden", Modifier.isPublic(c.getModifiers()) || Modifier.isProtected(c.getModifiers()), false);
        }
        all.add(PolicyTree.class);
        due("at most twelve", all.size() <= 12, true);
        for (Class<?> c : all) {
            int fields = 0;
            for (Field f : c.getDeclaredFields()) {
                due(f + " is final, if static", !Modifier.isStatic(f.getModifiers()) || Modifier.isFinal(f.getModifiers()), true);
                fields += Modifier.isStatic(f.getModifiers()) ? 0 : 1;
            }
            due(c + " has at most twenty fields", fields <= 20, true);
            List<Executable> calls = new ArrayList<>(Arrays.asList(c.getDeclaredMethods()));
            calls.addAll(Arrays.asList(c.getDeclaredConstructors()));
            for (Executable e : calls) {
                due(e + " takes at most seven", e.getParameterCount() <= 7, true);
            }
        }
    }

    private static void words() throws IOException {
        CHECK.part("words");
        String source = Files.readString(Path.of("src/main/java/PolicyTree.java"));
        due("signs", source.chars().allMatch(c -> c == '\n' || c >= 32 && c < 127), true);
        List<String> imports = source.lines().filter(l -> l.startsWith("import")).collect(Collectors.toList());
        due("imports", imports, List.of("import java.util.ArrayList;", "import java.util.Arrays;"));
        String code = source.replaceAll("(?s)/\\*.*?\\*/", "").replaceAll("//.*", "").replaceAll("\"[^\"]*\"", "\"\"");
        for (String word : new String[] {"->", "::", "finally", "synchronized", "assert", "catch", "try", "package",
            "protected", "System.out", "Exact", "hashCode", "toString", "Object", "Throwable", "@"}) {
            due(word, code.contains(word), false);
        }
        int start = 0;
        String[] lines = source.split("\n");
        for (int i = 0; i < lines.length; i++) {
            start = lines[i].isBlank() ? i : start;
            due("line " + (i + 1) + " is not too long", lines[i].length() <= 125, true);
            due("method at line " + (i + 1) + " is not too long", i - start <= 60, true);
        }
    }
}
