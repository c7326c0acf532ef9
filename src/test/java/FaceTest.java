import java.lang.reflect.Constructor;
import java.lang.reflect.Field;
import java.lang.reflect.Method;
import java.lang.reflect.Modifier;
import java.util.TreeSet;

/** The class has the document's face, whole, and shows nothing else. */
public final class FaceTest {
    private static final String[] FACE = {
        "public static final int BAD_VARIABLE = -1",
        "public static final int BAD_PARENTS = -2",
        "public static final int BAD_SCORE = -3",
        "public static final int BAD_LIMIT = -4",
        "public static final int NONE = -100000",
        "public StructureLearner()",
        "public int StructureLearner.score(int,int,int)",
        "public int StructureLearner.limit(int)",
        "public int StructureLearner.edge(int,int,int)",
        "public int StructureLearner.learn(long)",
        "public int StructureLearner.best()",
        "public int StructureLearner.parents(int)",
        "public int StructureLearner.bestWith(int,int)",
        "public int StructureLearner.bestWithout(int,int)",
        "public int StructureLearner.edges()",
        "public int StructureLearner.orders()",
        "public int StructureLearner.scoreOf(int,int)",
    };

    public static void main(String[] args) throws IllegalAccessException {
        TreeSet<String> due = new TreeSet<>();
        for (String member : FACE) {
            due.add(member);
        }
        TreeSet<String> seen = seenMembers();
        for (String member : due) {
            Check.holds("there is " + member, seen.contains(member));
        }
        for (String member : seen) {
            Check.holds("the document has " + member, due.contains(member));
        }
        int kind = StructureLearner.class.getModifiers();
        Check.holds("the class is public and final", kind == (Modifier.PUBLIC | Modifier.FINAL));
        Check.holds("it has no package", StructureLearner.class.getPackageName().isEmpty());
        Check.holds("it extends nothing", StructureLearner.class.getSuperclass() == Object.class);
        Check.holds("it implements nothing", StructureLearner.class.getInterfaces().length == 0);
        Check.holds("no class is nested in it", StructureLearner.class.getDeclaredClasses().length == 0);
        privateNames();
        staticFields();
        Check.end();
    }

    private static boolean isSeen(int modifiers) {
        return !Modifier.isPrivate(modifiers);
    }

    private static TreeSet<String> seenMembers() throws IllegalAccessException {
        TreeSet<String> seen = new TreeSet<>();
        for (Field field : StructureLearner.class.getDeclaredFields()) {
            int modifiers = field.getModifiers();
            if (isSeen(modifiers)) {
                String value = Modifier.isStatic(modifiers) ? " = " + field.get(null) : "";
                seen.add(Modifier.toString(modifiers) + " " + field.getType() + " " + field.getName() + value);
            }
        }
        for (Constructor<?> constructor : StructureLearner.class.getDeclaredConstructors()) {
            if (isSeen(constructor.getModifiers())) {
                seen.add(constructor.toString());
            }
        }
        for (Method method : StructureLearner.class.getDeclaredMethods()) {
            if (isSeen(method.getModifiers())) {
                seen.add(method.toString());
            }
        }
        return seen;
    }

    private static void privateNames() {
        TreeSet<String> shown = new TreeSet<>();
        for (Method method : StructureLearner.class.getDeclaredMethods()) {
            if (isSeen(method.getModifiers())) {
                shown.add(method.getName());
            }
        }
        for (Method method : StructureLearner.class.getDeclaredMethods()) {
            if (!isSeen(method.getModifiers())) {
                Check.holds(method.getName() + " is no public name", !shown.contains(method.getName()));
                Check.holds(method.getName() + " has at most seven parameters", method.getParameterCount() <= 7);
            }
        }
    }

    private static void staticFields() {
        for (Field field : StructureLearner.class.getDeclaredFields()) {
            if (Modifier.isStatic(field.getModifiers())) {
                boolean number = field.getType() == int.class || field.getType() == long.class;
                boolean constant = Modifier.isFinal(field.getModifiers());
                Check.holds(field.getName() + " is a constant number", number && constant);
            }
        }
    }
}
