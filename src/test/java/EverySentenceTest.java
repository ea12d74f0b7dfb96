import java.io.File;
import java.io.IOException;
import java.lang.reflect.Method;
import java.nio.file.Files;
import java.nio.file.Path;
import java.util.ArrayList;
import java.util.LinkedHashMap;
import java.util.List;
import java.util.Map;

/**
 * Every word of "What it is", "Terms" and the promises in the document is quoted by the Sentence of a boundary test, or
 * stands below as naming no boundary case; and every Sentence is found in the document under its heading.
 */
public final class EverySentenceTest {
    private static final Map<String, String> NO_BOUNDARY_CASE = Map.of(
        "What it is", "The numbers and arrays of a virtual machine with a shadow: registers and typed arrays are worked on as the"
            + " machine's instructions do, bit for bit, and beside it is followed which inputs each of them depends on, where that is"
            + " exact, where it was given up, and which ways were taken.");

    public static void main(String[] args) throws IOException, ClassNotFoundException {
        Map<String, StringBuilder> open = sections(Files.readString(Path.of(System.getProperty("document"))));
        Check.due("headings: what it is, terms and 22 promises", open.size(), 24);
        Map<String, String> whole = new LinkedHashMap<>();
        open.forEach((heading, text) -> whole.put(heading, text.toString()));
        NO_BOUNDARY_CASE.forEach((heading, words) -> blank(open.get(heading), whole.get(heading), words));
        for (Class<?> tests : boundaryTests()) {
            for (Method method : Boundary.marked(tests)) {
                Sentence sentence = method.getAnnotation(Sentence.class);
                boolean known = whole.containsKey(sentence.at());
                Check.holds("the document has the heading " + sentence.at(), known);
                if (known) {
                    blank(open.get(sentence.at()), whole.get(sentence.at()), sentence.says());
                }
            }
        }
        open.forEach((heading, text) -> {
            String left = text.toString().replaceAll("[\\s.,;:]+", " ").trim();
            Check.holds("under " + heading + " no test quotes: " + left, left.isEmpty());
        });
        Check.end();
    }

    /** The texts by their headings (of a promise without its name), white space folded, without marks of code and signatures. */
    private static Map<String, StringBuilder> sections(String document) {
        Map<String, StringBuilder> sections = new LinkedHashMap<>();
        for (String part : document.split("(?m)^## ")) {
            String heading = part.lines().findFirst().orElse("").replaceAll(":.*", "");
            if (heading.matches("What it is|Terms|Promise \\d+")) {
                String text = part.substring(part.indexOf('\n')).replaceAll("```(text)?", "").replaceAll("`[^`]*`:", "");
                sections.put(heading, new StringBuilder(text.replaceAll("\\s+", " ")));
            }
        }
        return sections;
    }

    private static void blank(StringBuilder open, String whole, String words) {
        int at = whole.indexOf(words);
        Check.holds("the document says: " + words, at >= 0);
        while (at >= 0) {
            open.replace(at, at + words.length(), " ".repeat(words.length()));
            at = whole.indexOf(words, at + 1);
        }
    }

    private static List<Class<?>> boundaryTests() throws ClassNotFoundException {
        List<Class<?>> tests = new ArrayList<>();
        for (String name : new File(System.getProperty("java.class.path")).list()) {
            if (name.matches("Boundary\\w+Test\\.class")) {
                tests.add(Class.forName(name.replace(".class", "")));
            }
        }
        Check.holds("there are boundary tests", !tests.isEmpty());
        return tests;
    }
}
