import java.io.IOException;
import java.nio.file.Files;
import java.nio.file.Path;
import java.util.Set;
import java.util.TreeSet;
import java.util.regex.Matcher;
import java.util.regex.Pattern;

/** The rules of LANGUAGE.md that the text of the class can show; it is run from the project's folder. */
public final class LanguageTest {
    private static final Path SOURCE = Path.of("src/main/java/WovenDebugger.java");
    private static final int LONGEST_METHOD = 60;
    private static final int MOST_FIELDS = 40;

    private static final Set<String> BANNED = Set.of(
        "package", "import", "interface", "enum", "record", "extends", "implements", "float", "double", "null",
        "throw", "throws", "try", "catch", "finally", "synchronized", "assert", "instanceof", "this", "super",
        "protected", "var", "native", "volatile", "transient", "strictfp");

    private static int wrong = 0;

    public static void main(String[] args) throws IOException {
        String text = Files.readString(SOURCE).replaceAll("(?s)/\\*.*?\\*/", "").replaceAll("//[^\n]*", "");
        words(text);
        arrays(text);
        statics(text);
        fields(text);
        methods(text);
        nestedCalls(text);
        System.out.println(wrong == 0 ? "the language is kept to" : wrong + " rules are broken");
        if (wrong != 0) {
            System.exit(1);
        }
    }

    private static void broken(int rule, String what) {
        wrong++;
        System.out.println("rule " + rule + ": " + what);
    }

    private static void words(String text) {
        Set<String> libraryNames = new TreeSet<>();
        Matcher word = Pattern.compile("[A-Za-z_][A-Za-z_0-9]*").matcher(text);
        int classes = 0;
        while (word.find()) {
            String w = word.group();
            if (BANNED.contains(w)) {
                broken(6, "the word " + w);
            }
            if (w.equals("class")) {
                classes++;
            }
            boolean looksLikeAClass = Character.isUpperCase(w.charAt(0)) && !w.equals(w.toUpperCase());
            if (looksLikeAClass && !w.equals("WovenDebugger")) {
                libraryNames.add(w);
            }
        }
        if (classes != 1) {
            broken(1, classes + " classes");
        }
        if (!libraryNames.isEmpty()) {
            broken(3, "names of classes: " + libraryNames);
        }
        if (text.contains("->") || text.contains("::") || text.contains("\"") || text.contains("@")) {
            broken(6, "a lambda, a method reference, a string or an annotation");
        }
        if (text.matches("(?s).*[A-Za-z_0-9)\\]]\\.[A-Za-z].*")) {
            broken(3, "a member of another object is named");
        }
    }

    private static void arrays(String text) {
        Matcher made = Pattern.compile("[^\n]*\\bnew\\b[^\n]*").matcher(text);
        while (made.find()) {
            String line = made.group();
            if (!line.matches("    private final (int|boolean)\\[\\] \\w+ = new \\1\\[[A-Z_]+\\];")) {
                broken(4, "made outside a field's initialiser: " + line.trim());
            }
        }
        if (text.matches("(?s).*\\[\\s*\\]\\s*\\[\\s*\\].*")) {
            broken(2, "an array of arrays");
        }
    }

    private static void statics(String text) {
        Matcher line = Pattern.compile("[^\n]*\\bstatic\\b[^\n]*").matcher(text);
        while (line.find()) {
            if (!line.group().matches("    (public|private) static final (int|long) [A-Z_]+ = [-A-Z_0-9 *]+;")) {
                broken(5, line.group().trim());
            }
        }
    }

    private static void fields(String text) {
        Matcher field = Pattern.compile("(?m)^    private (final )?\\w+(\\[\\])? \\w+ = [^;]*;").matcher(text);
        int count = 0;
        while (field.find()) {
            count++;
        }
        if (count == 0 || count > MOST_FIELDS) {
            broken(10, count + " fields");
        }
    }

    private static void methods(String text) {
        Matcher method = Pattern.compile("(?ms)^    (public|private) \\w+ (\\w+)\\(([^)]*)\\) \\{\n(.*?)^    \\}")
            .matcher(text);
        Set<String> names = new TreeSet<>();
        while (method.find()) {
            if (!names.add(method.group(2))) {
                broken(1, "two methods are named " + method.group(2));
            }
            if (method.group(3).split(",").length > 7) {
                broken(10, "too many parameters: " + method.group(2));
            }
            if (method.group(4).split("\n").length > LONGEST_METHOD) {
                broken(10, "too long: " + method.group(2));
            }
        }
        if (names.size() < 16) {
            broken(1, "only " + names.size() + " methods were found");
        }
    }

    private static void nestedCalls(String text) {
        Set<String> keywords = Set.of("if", "for", "while", "switch", "return");
        Matcher call = Pattern.compile("\\b(\\w+)\\(").matcher(text);
        while (call.find()) {
            if (!keywords.contains(call.group(1))) {
                String inside = argumentsAt(text, call.end());
                if (inside.matches("(?s).*\\b\\w+\\(.*")) {
                    broken(10, "a call inside the arguments of " + call.group(1));
                }
            }
        }
    }

    private static String argumentsAt(String text, int begin) {
        int open = 1;
        int at = begin;
        while (at < text.length() && open > 0) {
            char c = text.charAt(at);
            open += c == '(' ? 1 : c == ')' ? -1 : 0;
            at++;
        }
        return text.substring(begin, at);
    }
}
