import java.io.IOException;
import java.nio.file.Files;
import java.nio.file.Path;
import java.util.BitSet;

/**
 * A part of the document, sentence by sentence: each test names the sentence that it is for, which must stand in the
 * part, and in the end no sentence may be left without one.
 */
final class Doc {
    private static final Path FILE = Path.of("../shared/DOC.md");

    private final Check check;
    private final String heading;
    private final String text;
    private final BitSet tested = new BitSet();

    /** The part under the heading that begins so. */
    Doc(Check check, String heading) throws IOException {
        this.check = check;
        this.heading = heading;
        if (!Files.exists(FILE)) {
            System.out.println(FILE + " is not here: the sentences under \"" + heading + "\" are not held against it");
            text = null;
            return;
        }
        String all = Files.readString(FILE);
        int start = all.indexOf("\n## " + heading);
        int body = start < 0 ? -1 : all.indexOf('\n', start + 1);
        int next = body < 0 ? -1 : all.indexOf("\n## ", body);
        check.part(heading);
        check.due("the document has this part", body >= 0, true);
        text = body < 0 ? "" : plain(all.substring(body, next < 0 ? all.length() : next));
    }

    /** Without fences and faces, which FaceTests looks at; each run of blanks and line ends as one blank. */
    private static String plain(String part) {
        return part.replace("```text", " ").replace("```", " ").replaceAll("`[^`]*`: ", " ").replaceAll("\\s+", " ").trim();
    }

    /** What follows is a test of this sentence. */
    void says(String sentence) {
        check.part(heading + ", \"" + sentence + "\"");
        if (text == null) {
            return;
        }
        int at = text.indexOf(sentence);
        check.due("the sentence stands in the document", at >= 0, true);
        if (at >= 0) {
            tested.set(at, at + sentence.length());
        }
    }

    void allIsTested() {
        check.part(heading);
        if (text == null) {
            return;
        }
        StringBuilder rest = new StringBuilder();
        for (int i = 0; i < text.length(); i++) {
            rest.append(tested.get(i) ? '\n' : text.charAt(i));
        }
        for (String left : rest.toString().split("\n+")) {
            if (left.chars().anyMatch(Character::isLetter)) {
                check.due("a test for \"" + left.trim() + "\"", false, true);
            }
        }
    }
}
