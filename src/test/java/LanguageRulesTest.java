import java.io.IOException;
import java.lang.reflect.Field;
import java.lang.reflect.Method;
import java.lang.reflect.Modifier;
import java.nio.file.Files;
import java.nio.file.Path;
import java.util.List;
import java.util.Set;
import java.util.TreeSet;
import java.util.regex.Matcher;
import java.util.regex.Pattern;

/** The rules of LANGUAGE.md that can be seen by looking at the class and at its text. */
public final class LanguageRulesTest {
    private static final Set<String> FACE = Set.of(
        "int constant(int,int,long)", "int input(int,int,long,int)", "int one(int,int,int)", "int two(int,int,int,int)",
        "int move(int,int)", "int array(int,int,int)", "int drop(int)", "int share(int,int)", "int load(int,int,int)",
        "int store(int,int,int)", "int length(int,int)", "int copy(int,int,int,int,int)", "int branch(int,int,int)", "int kind(int)",
        "long bits(int)", "int shadow(int)", "long cell(int,int,int)", "long pin(int,int)", "long way(int,int)", "int count(int)");
    private static final Set<String> CONSTANTS =
        Set.of("OK", "REFUSED", "ARITHMETIC", "NULL", "BOUNDS", "NEGATIVE", "STORE", "NONE");
    private static final List<String> FORBIDDEN = List.of(
        "throw", "throws", "try", "catch", "finally", "synchronized", "assert", "float", "double", "import", "package", "protected", "Float",
        "Double", "Object", "Random", "Thread", "native", "volatile", "transient", "Exact", "->", "::");
    private static final Set<String> LIBRARY_CALLS = Set.of(
        "System.arraycopy", "Math.max", "Math.min", "Math.abs", "Long.compare", "Long.numberOfLeadingZeros");
    private static final int MOST_LINES_OF_A_METHOD = 60;

    public static void main(String[] args) throws IOException {
        face();
        classesInside();
        String text = Files.readString(Path.of(System.getProperty("source")));
        String code = text.replaceAll("(?s)/\\*.*?\\*/", "").replaceAll("//[^\n]*", "");
        words(code);
        methodLengths(code);
        Check.holds("the text has the signs 1 to 127 alone", text.chars().allMatch(sign -> sign > 0 && sign < 128));
        Check.end();
    }

    private static void face() {
        Class<?> face = ShadowMachine.class;
        Check.holds("rule 1: public and final", face.getModifiers() == (Modifier.PUBLIC | Modifier.FINAL));
        Check.due("rule 1: constructors", face.getDeclaredConstructors().length, 1);
        Check.holds("rule 1: a public constructor", Modifier.isPublic(face.getDeclaredConstructors()[0].getModifiers()));
        Set<String> found = new TreeSet<>();
        for (Method method : face.getDeclaredMethods()) {
            boolean isPublic = Modifier.isPublic(method.getModifiers());
            Check.holds("rule 1: public or private: " + method, isPublic || Modifier.isPrivate(method.getModifiers()));
            if (!isPublic) {
                Check.holds("rule 1: no name of a public method: " + method, !namesOfTheFace().contains(method.getName()));
            } else {
                Check.holds("rule 1: not static: " + method, !Modifier.isStatic(method.getModifiers()));
                found.add(signature(method));
            }
        }
        Check.holds("rule 1: the methods of the document: " + found, found.equals(FACE));
        Set<String> constants = new TreeSet<>();
        for (Field field : face.getDeclaredFields()) {
            int modifiers = field.getModifiers();
            Check.holds("rule 1: public or private: " + field, Modifier.isPublic(modifiers) || Modifier.isPrivate(modifiers));
            if (Modifier.isPublic(modifiers)) {
                constants.add(field.getName());
            }
        }
        Check.holds("rule 1: the constants of the document: " + constants, constants.equals(CONSTANTS));
    }

    private static String signature(Method method) {
        StringBuilder text = new StringBuilder().append(method.getReturnType()).append(' ').append(method.getName()).append('(');
        for (Class<?> parameter : method.getParameterTypes()) {
            text.append(text.charAt(text.length() - 1) == '(' ? "" : ",").append(parameter);
        }
        return text.append(')').toString();
    }

    private static Set<String> namesOfTheFace() {
        Set<String> names = new TreeSet<>();
        for (String signature : FACE) {
            names.add(signature.replaceAll(".* (.*)\\(.*", "$1"));
        }
        return names;
    }

    private static void classesInside() {
        Set<String> names = namesOfTheFace();
        Check.holds("rule 11: some twelve classes", ShadowMachine.class.getDeclaredClasses().length < 12);
        staticFieldsAreFinal(ShadowMachine.class);
        for (Class<?> inside : ShadowMachine.class.getDeclaredClasses()) {
            int modifiers = inside.getModifiers();
            Check.holds("rule 2: static: " + inside, Modifier.isStatic(modifiers));
            Check.holds("rule 1: private or package-visible: " + inside, !Modifier.isPublic(modifiers) && !Modifier.isProtected(modifiers));
            Check.holds("rule 2: a class and no more: " + inside, inside.getDeclaredClasses().length == 0);
            staticFieldsAreFinal(inside);
            for (Method method : inside.getDeclaredMethods()) {
                Check.holds("rule 1: no name of a public method: " + method, !names.contains(method.getName()));
                Check.holds("rule 11: at most seven parameters: " + method, method.getParameterCount() <= 7);
            }
        }
    }

    private static void staticFieldsAreFinal(Class<?> owner) {
        int fields = 0;
        for (Field field : owner.getDeclaredFields()) {
            if (Modifier.isStatic(field.getModifiers())) {
                Check.holds("rule 5: final: " + field, Modifier.isFinal(field.getModifiers()));
            } else {
                fields++;
            }
        }
        Check.holds("rule 11: some twenty fields: " + owner, fields <= 20);
    }

    private static void words(String code) {
        for (String word : FORBIDDEN) {
            boolean letters = Character.isLetter(word.charAt(0));
            Pattern pattern = letters ? Pattern.compile("\\b" + word + "\\b") : Pattern.compile(Pattern.quote(word));
            Check.holds("no " + word, !pattern.matcher(code).find());
        }
        Check.holds("rule 5: no static initialiser", !code.matches("(?s).*static\\s*\\{.*"));
        Matcher call = Pattern.compile("\\b(System|Math|Long|Integer|Arrays|String|List)\\.\\w+").matcher(code);
        while (call.find()) {
            Check.holds("rule 4: " + call.group(), LIBRARY_CALLS.contains(call.group()));
        }
    }

    private static void methodLengths(String code) {
        String[] lines = code.split("\n");
        int start = -1;
        String indent = "";
        for (int i = 0; i < lines.length; i++) {
            Matcher head = Pattern.compile("^( {4}| {8})[\\w\\[\\] ]+\\([^;]*\\) \\{$").matcher(lines[i]);
            if (head.find()) {
                start = i;
                indent = head.group(1);
            }
            if (start >= 0 && lines[i].equals(indent + "}")) {
                Check.holds("rule 11: short: " + lines[start].trim(), i - start + 1 <= MOST_LINES_OF_A_METHOD);
                start = -1;
            }
        }
    }
}
