import java.io.IOException;
import java.lang.reflect.Method;
import java.lang.reflect.Modifier;
import java.nio.file.Files;
import java.nio.file.Path;
import java.util.List;
import java.util.regex.Pattern;
import java.util.stream.Collectors;

/** README.md: its example answers what it says, and it tells of every call of the face. */
public final class ReadmeTests {
    private static final Check CHECK = new Check();

    public static void main(String[] args) throws IOException {
        String readme = Files.readString(Path.of("README.md"));
        example();
        exampleIsTheSame(readme);
        allCallsAreTold(readme);
        CHECK.finish();
    }

    private static void example() {
        CHECK.part("example");
        PolicyTree tree = new PolicyTree();
        int office = tree.node(0);
        int desk = tree.machine(office);
        int strict = tree.set();
        tree.tell(strict, 3, 10);
        tree.feed(0x66616374, 0x20320000, 0, 0, 0);
        int link = tree.link(0, strict, 5, false, 6);
        CHECK.due("link", link, 0);
        CHECK.due("not known", tree.outcome(desk, 3), 0);
        CHECK.due("so not sure", tree.sure(desk, 3), false);
        tree.fact(desk, 2, 1);
        CHECK.due("yes", tree.value(desk, 3, 0), 10);
        CHECK.due("by the link", tree.reason(desk, 3), link);
    }

    /** Each call of the page's example stands above, too; else that test is of another example. */
    private static void exampleIsTheSame(String readme) throws IOException {
        CHECK.part("the same example");
        String source = Files.readString(Path.of("src/test/java/ReadmeTests.java"));
        int start = readme.indexOf("```java\n");
        int end = start < 0 ? -1 : readme.indexOf("```\n", start + 1);
        CHECK.due("there is one", end >= 0, true);
        if (end < 0) {
            return;
        }
        List<String> calls = readme.substring(start, end).lines().skip(1)
                .map(l -> l.replaceAll(";.*", "")).filter(l -> !l.isBlank()).collect(Collectors.toList());
        int at = 0;
        for (String call : calls) {
            int found = source.indexOf(call, at);
            CHECK.due(call, found >= 0, true);
            at = Math.max(at, found);
        }
    }

    private static void allCallsAreTold(String readme) {
        CHECK.part("told");
        for (Method m : PolicyTree.class.getDeclaredMethods()) {
            if (Modifier.isPublic(m.getModifiers())) {
                String told = "`" + m.getName() + "\\([^)`]*\\)`";
                List<Integer> counts = Pattern.compile(told).matcher(readme).results()
                        .map(r -> parameters(r.group())).collect(Collectors.toList());
                CHECK.due(m.getName() + " with its parameters", counts.contains(m.getParameterCount()), true);
            }
        }
    }

    private static int parameters(String call) {
        return call.contains("()") ? 0 : call.split(",").length;
    }
}
