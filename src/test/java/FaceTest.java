import java.io.IOException;
import java.lang.reflect.Constructor;
import java.lang.reflect.Field;
import java.lang.reflect.Method;
import java.lang.reflect.Modifier;
import java.nio.file.Files;
import java.nio.file.Path;
import java.util.Map;
import java.util.Set;
import java.util.TreeMap;
import java.util.TreeSet;

/** The class shows the document's face and nothing else (LANGUAGE.md, rule 1); run from the project's root. */
public final class FaceTest {
    private static final Path SOURCE = Path.of("src/main/java/GiftLots.java");
    private static final Map<String, Integer> CONSTANTS =
            Map.of("NONE", -6, "UNKNOWN", -1, "OUTSIDE", -2, "STATE", -3, "NO", -5);
    /** The calls as the document has them, and what it says ahead of them. */
    private static final String[] CALLS = {
        "---- 1 who may",
        "int ones(int n)", "int may(int from, int to, boolean is)", "int couple(int a, int b)", "int bar()",
        "int least(int n)", "int ways()", "int free()", "int way(int k, int one)", "int rounds(int n)",
        "int both(int from, int to)", "int rooks(int k)", "int heap()",
        "---- 2 the hand",
        "int lay(int from, int to)", "int laid(int one)", "int draw(int k)", "int rank()",
        "int share(int i, int j)", "int knows(int one)", "int sure(int one, int other)", "int changes(int x)",
        "int mends(int x)", "int mend(int x, int one)", "int told(int what)"};

    private static final Due due = new Due();

    public static void main(String[] args) throws IOException, IllegalAccessException {
        due.about("the face");
        type();
        constructor();
        methods();
        fields();
        order(Files.readString(SOURCE));
        due.end();
    }

    private static void type() {
        int modifiers = GiftLots.class.getModifiers();
        due.holds("the class is not public and final", Modifier.isPublic(modifiers) && Modifier.isFinal(modifiers));
        due.is("the class above it", GiftLots.class.getSuperclass().getName(), "java.lang.Object");
        due.is("interfaces", GiftLots.class.getInterfaces().length, 0);
        for (Class<?> inside : GiftLots.class.getDeclaredClasses()) {
            int own = inside.getModifiers();
            due.holds(inside + " is public or protected", !Modifier.isPublic(own) && !Modifier.isProtected(own));
        }
    }

    private static void constructor() {
        Constructor<?>[] all = GiftLots.class.getDeclaredConstructors();
        due.is("constructors", all.length, 1);
        due.holds("no public constructor without parameters",
                all[0].getParameterCount() == 0 && Modifier.isPublic(all[0].getModifiers()));
        due.is("what the constructor throws", all[0].getExceptionTypes().length, 0);
    }

    private static void methods() {
        Set<String> wanted = new TreeSet<>();
        Set<String> names = new TreeSet<>();
        for (String call : CALLS) {
            if (!call.startsWith("-")) {
                // The names of parameters are not in the class, but in its text: order() looks at them.
                wanted.add(call.replaceAll("(int|boolean) \\w+(?=[,)])", "$1"));
                names.add(call.replaceAll("int (\\w+)\\(.*", "$1"));
            }
        }
        Set<String> open = new TreeSet<>();
        for (Method method : GiftLots.class.getDeclaredMethods()) {
            if (Modifier.isPrivate(method.getModifiers())) {
                due.holds(method + " bears a public name", !names.contains(method.getName()));
            } else {
                due.holds(method + " is static", !Modifier.isStatic(method.getModifiers()));
                due.holds(method + " is neither private nor public", Modifier.isPublic(method.getModifiers()));
                due.is("what " + method.getName() + " throws", method.getExceptionTypes().length, 0);
                open.add(signature(method));
            }
        }
        due.is("the open methods", open.toString(), wanted.toString());
    }

    private static String signature(Method method) {
        StringBuilder text = new StringBuilder();
        for (Class<?> type : method.getParameterTypes()) {
            text.append(text.length() == 0 ? "" : ", ").append(type.getName());
        }
        return method.getReturnType().getName() + " " + method.getName() + "(" + text + ")";
    }

    private static void fields() throws IllegalAccessException {
        Map<String, Integer> open = new TreeMap<>();
        for (Field field : GiftLots.class.getDeclaredFields()) {
            int modifiers = field.getModifiers();
            due.holds(field + " is static and not final", !Modifier.isStatic(modifiers) || Modifier.isFinal(modifiers));
            if (!Modifier.isPrivate(modifiers)) {
                open.put(field.getName(), valueOf(field));
            }
        }
        due.is("the open fields", open.toString(), new TreeMap<>(CONSTANTS).toString());
    }

    private static int valueOf(Field field) throws IllegalAccessException {
        int modifiers = field.getModifiers();
        boolean isConstant = field.getType() == int.class && Modifier.isPublic(modifiers)
                && Modifier.isStatic(modifiers) && Modifier.isFinal(modifiers);
        due.holds(field + " is no public int constant", isConstant);
        return isConstant ? field.getInt(null) : 0;
    }

    private static void order(String text) {
        int at = text.indexOf("public GiftLots() {");
        due.holds("the text has no constructor", at >= 0);
        for (String call : CALLS) {
            String line = call.startsWith("-") ? "// " + call + "\n" : "public " + call + " {";
            int next = text.indexOf(line);
            due.holds(line.strip() + " stands not where the document has it", next > at);
            at = Math.max(at, next);
        }
    }
}
