import java.io.File;
import java.io.IOException;
import java.lang.reflect.Field;
import java.lang.reflect.Method;
import java.lang.reflect.Modifier;
import java.nio.file.Files;
import java.nio.file.Path;
import java.util.List;
import java.util.regex.Matcher;
import java.util.regex.Pattern;

/** What README.md says of the class is so; run from the project's folder. */
public final class ReadmeTest {
    private static final Pattern CALL = Pattern.compile("x\\.(\\w+)\\(([^()]*)\\);\\s+// (\\w+|-\\d+)(?::.*)?");

    public static void main(String[] args) throws IOException, ReflectiveOperationException {
        String text = Files.readString(Path.of("README.md"));
        example(text);
        everyMemberIsNamed(text);
        everyTestIsNamed(text);
        Check.holds("README.md tells how to run the tests", text.contains("\n    .ci/run\n"));
        Check.end();
    }

    private static void example(String text) throws ReflectiveOperationException {
        int start = text.indexOf("```java\n") + 8;
        List<String> lines = text.substring(start, text.indexOf("```", start)).lines().toList();
        Check.holds("the example makes an object", lines.get(0).equals("StructureLearner x = new StructureLearner();"));
        StructureLearner x = new StructureLearner();
        for (String line : lines.subList(1, lines.size())) {
            Matcher call = CALL.matcher(line);
            boolean read = call.matches();
            Check.holds("a call and its answer can be read in: " + line, read);
            if (read) {
                Check.due(line, answer(x, call.group(1), call.group(2)), numberOrConstant(call.group(3)));
            }
        }
    }

    private static int answer(StructureLearner x, String name, String list) throws ReflectiveOperationException {
        String[] words = list.isEmpty() ? new String[0] : list.split(", ");
        for (Method method : StructureLearner.class.getMethods()) {
            if (method.getName().equals(name)) {
                Object[] arguments = new Object[words.length];
                for (int i = 0; i < words.length; i++) {
                    long number = number(words[i]);
                    boolean isLong = method.getParameterTypes()[i] == long.class;
                    // Without the casts ?: would make a long of either.
                    arguments[i] = isLong ? (Object) number : (Object) (int) number;
                }
                return (int) method.invoke(x, arguments);
            }
        }
        throw new NoSuchMethodException(name);
    }

    private static long number(String word) {
        String digits = word.replaceFirst("L$", "");
        if (digits.startsWith("0b")) {
            return Long.parseUnsignedLong(digits.substring(2), 2);
        }
        if (digits.startsWith("0x")) {
            return Long.parseUnsignedLong(digits.substring(2), 16);
        }
        return Long.parseLong(digits);
    }

    private static long numberOrConstant(String word) throws ReflectiveOperationException {
        boolean isName = Character.isLetter(word.charAt(0));
        return isName ? StructureLearner.class.getField(word).getInt(null) : number(word);
    }

    private static void everyMemberIsNamed(String text) {
        for (Method method : StructureLearner.class.getDeclaredMethods()) {
            if (Modifier.isPublic(method.getModifiers())) {
                Check.holds("README.md tells of " + method.getName(), text.contains("| `" + method.getName() + "("));
                Check.holds("the example has " + method.getName(), text.contains("\nx." + method.getName() + "("));
            }
        }
        for (Field field : StructureLearner.class.getFields()) {
            Check.holds("README.md tells of " + field.getName(), text.contains("`" + field.getName() + "`"));
        }
    }

    private static void everyTestIsNamed(String text) {
        for (File file : new File("src/test/java").listFiles((folder, name) -> name.endsWith(".java"))) {
            String name = file.getName().replace(".java", "");
            Check.holds("README.md tells of " + name, text.contains("\n- `" + name + "`: "));
        }
    }
}
