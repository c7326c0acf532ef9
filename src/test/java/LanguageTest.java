import java.io.IOException;
import java.nio.file.Files;
import java.nio.file.Path;
import java.util.ArrayDeque;
import java.util.Deque;
import java.util.Map;
import java.util.TreeMap;
import java.util.regex.Matcher;
import java.util.regex.Pattern;

/** The rules of LANGUAGE.md that the words of the source can show; run from the project's folder. */
public final class LanguageTest {
    private static final Path SOURCE = Path.of("src/main/java/StructureLearner.java");
    private static final String[] FORBIDDEN = {
        "import", "package", "interface", "enum", "record", "float", "double", "null", "var",
        "throw", "throws", "try", "catch", "finally", "synchronized", "assert", "instanceof",
        "String", "Math", "Integer", "Long", "System", "Arrays", "Object", "protected",
        "toString", "equals", "hashCode", "getClass", "clone", "length",
    };

    public static void main(String[] args) throws IOException {
        String code = withoutComments(Files.readString(SOURCE));
        for (String word : FORBIDDEN) {
            Check.due("uses of " + word, count("\\b" + word + "\\b", code), 0);
        }
        Check.due("lambdas and method references", count("->|::", code), 0);
        Check.due("text", count("\"", code), 0);
        Check.due("classes", count("\\bclass\\b", code), 1);
        Check.due("static initialisers", count("\\bstatic\\s*\\{", code), 0);
        Check.due("arrays of arrays", count("\\]\\s*\\[", code), 0);
        arraysAreFields(code);
        callsInCalls(code);
        loopsEnd(code);
        methods(code);
        Check.end();
    }

    private static String withoutComments(String source) {
        return source.replaceAll("(?s)/\\*.*?\\*/", "").replaceAll("//[^\n]*", "");
    }

    private static int count(String pattern, String code) {
        Matcher matcher = Pattern.compile(pattern).matcher(code);
        int count = 0;
        while (matcher.find()) {
            count++;
        }
        return count;
    }

    private static void arraysAreFields(String code) {
        String field = "(?m)^    private final int\\[\\] \\w+ = new int\\[[1-9]\\d*\\];";
        Check.due("things made elsewhere than in a field", count("\\bnew\\b", code) - count(field, code), 0);
    }

    // A call is a name with a bracket behind it, unless the name is a word of the language.
    private static void callsInCalls(String code) {
        Matcher mark = Pattern.compile("(\\b\\w+)?\\s*\\(|\\)").matcher(code);
        Deque<Boolean> open = new ArrayDeque<>();
        int found = 0;
        while (mark.find()) {
            if (mark.group().equals(")")) {
                open.pop();
                continue;
            }
            String name = mark.group(1);
            boolean isCall = name != null && !name.matches("if|for|while|switch|return");
            if (isCall && open.contains(true)) {
                found++;
            }
            open.push(isCall);
        }
        Check.due("calls in the arguments of calls", found, 0);
    }

    // Every loop counts up to a constant, and nothing but its head moves the counter.
    private static void loopsEnd(String code) {
        String head = "for \\(int (\\w+) = 0; \\1 < [A-Z]+; \\1\\+\\+\\) \\{";
        Check.due("loops of another form", count("\\b(?:for|while|do)\\b", code) - count(head, code), 0);
        Matcher loop = Pattern.compile("(?ms)^( +)" + head.replace("\\1", "\\2") + "\n(.*?)^\\1\\}").matcher(code);
        int from = 0;
        while (loop.find(from)) {
            String counter = loop.group(2);
            String set = "\\b" + counter + "\\s*(?:[-+*/%&|^]|<<|>>>?)?=(?!=)";
            String step = "\\b" + counter + "(?:\\+\\+|--)|(?:\\+\\+|--)" + counter + "\\b";
            Check.due("moves of the counter " + counter + " in its loop", count(set + "|" + step, loop.group(3)), 0);
            from = loop.start(3);
        }
    }

    private static void methods(String code) {
        Map<String, String> bodies = new TreeMap<>();
        Matcher method = Pattern.compile("(?ms)^    (?:public|private)[\\w ]*? (\\w+)\\([^()]*\\) \\{\n(.*?)^    \\}").matcher(code);
        while (method.find()) {
            bodies.put(method.group(1), method.group(2));
            Check.holds(method.group(1) + " is short", method.group(2).lines().count() <= 60);
        }
        Check.due("methods found", bodies.size(), StructureLearner.class.getDeclaredMethods().length + 1);
        for (String name : bodies.keySet()) {
            Check.holds("calls from " + name + " go at most six deep", endsWithin(6, name, bodies));
        }
    }

    // Recursion never ends within any depth, so this finds it too.
    private static boolean endsWithin(int depth, String name, Map<String, String> bodies) {
        if (depth == 0) {
            return false;
        }
        for (String called : bodies.keySet()) {
            boolean calls = count("\\b" + called + "\\(", bodies.get(name)) > 0;
            if (calls && !endsWithin(depth - 1, called, bodies)) {
                return false;
            }
        }
        return true;
    }
}
