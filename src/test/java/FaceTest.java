import java.lang.reflect.Constructor;
import java.lang.reflect.Field;
import java.lang.reflect.Method;
import java.lang.reflect.Modifier;
import java.util.Set;
import java.util.TreeSet;

/** The class shows the document's face and nothing else (LANGUAGE.md, rule 1; static state, rule 5). */
public final class FaceTest {
    private static final Set<String> METHODS = Set.of(
            "ones(int)", "may(int,int,boolean)", "couple(int,int)", "bar()", "least(int)", "ways()",
            "free()", "way(int,int)", "rounds(int)", "both(int,int)", "rooks(int)", "heap()",
            "lay(int,int)", "laid(int)", "draw(int)", "rank()", "share(int,int)", "knows(int)",
            "sure(int,int)", "changes(int)", "mends(int)", "mend(int,int)", "told(int)");
    private static final Set<String> CONSTANTS = Set.of("NONE", "UNKNOWN", "OUTSIDE", "STATE", "NO");

    private static final Due due = new Due();

    public static void main(String[] args) {
        due.about("the face");
        int modifiers = GiftLots.class.getModifiers();
        due.holds("the class is not public and final", Modifier.isPublic(modifiers) && Modifier.isFinal(modifiers));
        constructors();
        methods();
        fields();
        due.end();
    }

    private static void constructors() {
        Constructor<?>[] all = GiftLots.class.getDeclaredConstructors();
        due.is("constructors", all.length, 1);
        due.holds("no public constructor without parameters",
                all[0].getParameterCount() == 0 && Modifier.isPublic(all[0].getModifiers()));
    }

    private static void methods() {
        Set<String> open = new TreeSet<>();
        Set<String> names = new TreeSet<>();
        for (Method method : GiftLots.class.getDeclaredMethods()) {
            if (Modifier.isPublic(method.getModifiers())) {
                open.add(signature(method));
                names.add(method.getName());
                due.holds(method + " is not as told",
                        method.getReturnType() == int.class && !Modifier.isStatic(method.getModifiers()));
            }
        }
        due.holds("public methods: " + open, open.equals(new TreeSet<>(METHODS)));
        for (Method method : GiftLots.class.getDeclaredMethods()) {
            if (!Modifier.isPublic(method.getModifiers())) {
                due.holds(method + " is not private", Modifier.isPrivate(method.getModifiers()));
                due.holds(method + " bears a public name", !names.contains(method.getName()));
            }
        }
    }

    private static String signature(Method method) {
        StringBuilder text = new StringBuilder(method.getName()).append('(');
        for (Class<?> type : method.getParameterTypes()) {
            text.append(text.charAt(text.length() - 1) == '(' ? "" : ",").append(type.getName());
        }
        return text.append(')').toString();
    }

    private static void fields() {
        Set<String> open = new TreeSet<>();
        for (Field field : GiftLots.class.getDeclaredFields()) {
            int modifiers = field.getModifiers();
            if (Modifier.isPublic(modifiers)) {
                open.add(field.getName());
                due.holds(field + " is no int constant", field.getType() == int.class
                        && Modifier.isStatic(modifiers) && Modifier.isFinal(modifiers));
            } else {
                due.holds(field + " is not private", Modifier.isPrivate(modifiers));
            }
            due.holds(field + " is static and not final", !Modifier.isStatic(modifiers) || Modifier.isFinal(modifiers));
        }
        due.holds("public fields: " + open, open.equals(new TreeSet<>(CONSTANTS)));
    }
}
