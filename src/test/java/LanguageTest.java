import com.sun.source.tree.*;
import com.sun.source.util.JavacTask;
import com.sun.source.util.TreePathScanner;
import com.sun.source.util.Trees;
import java.io.IOException;
import java.nio.file.Files;
import java.nio.file.Path;
import java.util.HashMap;
import java.util.HashSet;
import java.util.List;
import java.util.Map;
import java.util.Set;
import java.util.TreeSet;
import javax.lang.model.element.Element;
import javax.lang.model.element.ElementKind;
import javax.lang.model.element.ExecutableElement;
import javax.lang.model.element.Modifier;
import javax.lang.model.element.TypeElement;
import javax.lang.model.type.ArrayType;
import javax.lang.model.type.DeclaredType;
import javax.lang.model.type.TypeKind;
import javax.lang.model.type.TypeMirror;
import javax.tools.JavaCompiler;
import javax.tools.StandardJavaFileManager;
import javax.tools.ToolProvider;

/**
 * ../shared/LANGUAGE.md as far as the compiler's own reading of the class can tell; FaceTest has rule 1, RoomTest
 * has the room of rule 12, and rules 7 and 9 (every index looked at, every loop with an end) need a reader.
 * Run from the project's root.
 */
public final class LanguageTest extends TreePathScanner<Void, Void> {
    private static final Path SOURCE = Path.of("src/main/java/GiftLots.java");
    private static final int MOST_PARAMETERS = 7, MOST_LINES = 60, MOST_FIELDS = 20, MOST_CLASSES = 12, DEEPEST = 8;

    private static final Set<String> LISTS = Set.of("<init>", "add", "get", "set", "remove", "size", "isEmpty", "clear", "of");
    /** Rule 4; of Integer, Long and Math isOfNumbers tells. */
    private static final Map<String, Set<String>> LIBRARY = Map.of(
            "java.lang.String", Set.of("<init>", "length", "charAt", "isEmpty", "equals", "indexOf", "substring", "toCharArray"),
            "java.lang.StringBuilder", Set.of("<init>", "append", "charAt", "setCharAt", "setLength", "deleteCharAt",
                    "reverse", "length", "toString"),
            "java.util.ArrayList", LISTS, "java.util.List", LISTS, "java.util.Collection", LISTS,
            "java.lang.System", Set.of("arraycopy"),
            "java.util.Arrays", Set.of("copyOf", "copyOfRange", "fill"),
            "java.util.Iterator", Set.of("hasNext", "next"),
            "java.lang.Iterable", Set.of("iterator"),
            // What the compiler names as the owner of an array's clone.
            "Array", Set.of("clone"));
    private static final Set<String> ABOVE = Set.of("java.lang.Object", "java.lang.Enum", "java.lang.Record");
    private static final Set<String> TYPES = Set.of("java.lang.String", "java.lang.StringBuilder", "java.lang.Integer",
            "java.util.ArrayList", "java.util.List", "java.util.Iterator", "java.lang.Iterable", "java.lang.Comparable");
    private static final Set<String> IMPORTS = Set.of("java.util.Arrays", "java.util.ArrayList", "java.util.List",
            "java.util.Iterator", "java.util.NoSuchElementException");
    private static final Set<String> EXCEPTIONS = Set.of("IllegalStateException", "IllegalArgumentException",
            "IndexOutOfBoundsException", "ArithmeticException", "UnsupportedOperationException",
            "NoSuchElementException", "RuntimeException");

    private static final Due due = new Due();

    private final Trees trees;
    private final CompilationUnitTree unit;
    /** By 'class.method': which it calls. */
    private final Map<String, Set<String>> calls = new HashMap<>();
    private final Set<String> open = new HashSet<>();
    private String method = "";
    private int classes;

    private LanguageTest(Trees trees, CompilationUnitTree unit) {
        this.trees = trees;
        this.unit = unit;
    }

    public static void main(String[] args) throws IOException {
        due.about(SOURCE.toString());
        due.holds("rule 4: a sign beyond 126", Files.readString(SOURCE).chars().allMatch(sign -> sign < 127));
        JavaCompiler compiler = ToolProvider.getSystemJavaCompiler();
        try (StandardJavaFileManager files = compiler.getStandardFileManager(null, null, null)) {
            JavacTask task = (JavacTask) compiler.getTask(null, files, null, List.of("--release", "17"), null,
                    files.getJavaFileObjects(SOURCE));
            CompilationUnitTree unit = task.parse().iterator().next();
            task.analyze();
            due.holds("a package line", unit.getPackageName() == null);
            due.is("classes of the file's own", unit.getTypeDecls().size(), 1);
            LanguageTest test = new LanguageTest(Trees.instance(task), unit);
            test.scan(unit, null);
            test.lookAtCalls();
        }
        due.end();
    }

    // ---- calls among the methods

    private void lookAtCalls() {
        due.holds("rule 11: " + classes + " classes", classes <= MOST_CLASSES);
        for (String start : calls.keySet()) {
            Set<String> reached = new HashSet<>();
            reach(start, reached);
            due.holds("rule 8: " + start + " calls itself and is open", !reached.contains(start) || !open.contains(start));
            int deep = depth(start, new HashSet<>());
            due.holds("rule 11: calls from " + start + " go " + deep + " deep", deep <= DEEPEST);
        }
    }

    private void reach(String from, Set<String> reached) {
        for (String to : calls.getOrDefault(from, Set.of())) {
            if (reached.add(to)) {
                reach(to, reached);
            }
        }
    }

    /** The calls that stand open at once from here on; each method of a recursion is counted once. */
    private int depth(String from, Set<String> standing) {
        int deepest = 0;
        standing.add(from);
        for (String to : calls.getOrDefault(from, Set.of())) {
            if (!standing.contains(to)) {
                deepest = Math.max(deepest, depth(to, standing));
            }
        }
        standing.remove(from);
        return deepest + 1;
    }

    // ---- what stands in the class

    private void holds(String rule, Tree tree, boolean so) {
        long line = unit.getLineMap().getLineNumber(trees.getSourcePositions().getStartPosition(unit, tree));
        due.holds("line " + line + ", rule " + rule, so);
    }

    @Override
    public Void scan(Tree tree, Void none) {
        if (tree != null) {
            switch (tree.getKind()) {
                case LAMBDA_EXPRESSION: case MEMBER_REFERENCE:
                    holds("2: a lambda or a method reference", tree, false); break;
                case SYNCHRONIZED: case ASSERT:
                    holds("6: synchronized or assert", tree, false); break;
                case PLUS: case PLUS_ASSIGNMENT:
                    holds("10: texts joined by +", tree, !typeOf(tree).toString().equals("java.lang.String")); break;
                default:
            }
        }
        return super.scan(tree, none);
    }

    private TypeMirror typeOf(Tree tree) {
        return trees.getTypeMirror(trees.getPath(unit, tree));
    }

    @Override
    public Void visitImport(ImportTree tree, Void none) {
        holds("4: " + tree, tree, !tree.isStatic() && IMPORTS.contains(tree.getQualifiedIdentifier().toString()));
        return null;
    }

    @Override
    public Void visitClass(ClassTree tree, Void none) {
        classes++;
        int fields = 0;
        for (Tree member : tree.getMembers()) {
            holds("5: a block outside methods", member, member.getKind() != Tree.Kind.BLOCK);
            boolean isField = member.getKind() == Tree.Kind.VARIABLE;
            fields += isField && !((VariableTree) member).getModifiers().getFlags().contains(Modifier.STATIC) ? 1 : 0;
        }
        holds("11: " + fields + " fields", tree, fields <= MOST_FIELDS);
        return super.visitClass(tree, none);
    }

    @Override
    public Void visitVariable(VariableTree tree, Void none) {
        Element variable = trees.getElement(getCurrentPath());
        boolean isCaught = variable.getKind() == ElementKind.EXCEPTION_PARAMETER;
        holds("3: " + tree, tree, isCaught || isAllowed(variable.asType()));
        if (variable.getKind() == ElementKind.FIELD && variable.getModifiers().contains(Modifier.STATIC)) {
            boolean isWrittenOut = !(tree.getInitializer() instanceof NewArrayTree)
                    || ((NewArrayTree) tree.getInitializer()).getInitializers() != null;
            holds("5: " + tree, tree, variable.getModifiers().contains(Modifier.FINAL) && isWrittenOut);
        }
        return super.visitVariable(tree, none);
    }

    private static boolean isAllowed(TypeMirror type) {
        if (type.getKind() == TypeKind.ARRAY) {
            TypeMirror part = ((ArrayType) type).getComponentType();
            boolean isTwo = part.getKind() == TypeKind.ARRAY;
            return isTwo ? ((ArrayType) part).getComponentType().getKind().isPrimitive()
                    : part.getKind().isPrimitive() || isOwn(part);
        }
        return type.getKind().isPrimitive() || type.getKind() == TypeKind.TYPEVAR || isOwn(type)
                || (type.getKind() == TypeKind.DECLARED && TYPES.contains(nameOf(((DeclaredType) type).asElement())));
    }

    private static boolean isOwn(TypeMirror type) {
        return type.getKind() == TypeKind.DECLARED && isOwn(((DeclaredType) type).asElement());
    }

    private static boolean isOwn(Element element) {
        Element outer = element;
        while (outer != null && !(outer instanceof TypeElement && nameOf(outer).equals("GiftLots"))) {
            outer = outer.getEnclosingElement();
        }
        return outer != null;
    }

    private static String nameOf(Element type) {
        return type instanceof TypeElement ? ((TypeElement) type).getQualifiedName().toString() : type.toString();
    }

    @Override
    public Void visitMethod(MethodTree tree, Void none) {
        Element element = trees.getElement(getCurrentPath());
        String before = method;
        method = nameOf(element.getEnclosingElement()) + "." + tree.getName();
        calls.putIfAbsent(method, new TreeSet<>());
        if (!element.getModifiers().contains(Modifier.PRIVATE)) {
            open.add(method);
        }
        holds("6: " + method, tree, tree.getThrows().isEmpty()
                && !Set.of("equals", "hashCode", "toString").contains(tree.getName().toString()));
        holds("11: parameters of " + method, tree, tree.getParameters().size() <= MOST_PARAMETERS);
        LineMap lines = unit.getLineMap();
        long first = lines.getLineNumber(trees.getSourcePositions().getStartPosition(unit, tree));
        long last = lines.getLineNumber(trees.getSourcePositions().getEndPosition(unit, tree));
        holds("11: " + method + " is long", tree, last - first < MOST_LINES);
        super.visitMethod(tree, none);
        method = before;
        return null;
    }

    @Override
    public Void visitMethodInvocation(MethodInvocationTree tree, Void none) {
        Element called = trees.getElement(getCurrentPath());
        Element owner = called.getEnclosingElement();
        String name = called.getSimpleName().toString();
        if (isOwn(owner)) {
            calls.getOrDefault(method, new HashSet<>()).add(nameOf(owner) + "." + name);
        } else {
            boolean isListed = LIBRARY.getOrDefault(nameOf(owner), Set.of()).contains(name);
            boolean isAbove = name.equals("<init>") && ABOVE.contains(nameOf(owner));
            holds("4: " + tree, tree, isListed || isAbove || isOfNumbers((ExecutableElement) called));
        }
        return super.visitMethodInvocation(tree, none);
    }

    private static boolean isOfNumbers(ExecutableElement called) {
        String owner = nameOf(called.getEnclosingElement());
        Set<TypeKind> numbers = Set.of(TypeKind.INT, TypeKind.LONG, TypeKind.BOOLEAN);
        return Set.of("java.lang.Integer", "java.lang.Long", "java.lang.Math").contains(owner)
                && called.getModifiers().contains(Modifier.STATIC)
                && !called.getSimpleName().toString().endsWith("Exact")
                && numbers.contains(called.getReturnType().getKind())
                && called.getParameters().stream().allMatch(each -> numbers.contains(each.asType().getKind()));
    }

    @Override
    public Void visitNewClass(NewClassTree tree, Void none) {
        Element made = trees.getElement(getCurrentPath()).getEnclosingElement();
        boolean isThrown = getCurrentPath().getParentPath().getLeaf().getKind() == Tree.Kind.THROW;
        holds("4: " + tree, tree, isOwn(made) || isThrown || LIBRARY.getOrDefault(nameOf(made), Set.of()).contains("<init>"));
        return super.visitNewClass(tree, none);
    }

    @Override
    public Void visitThrow(ThrowTree tree, Void none) {
        boolean isNew = tree.getExpression() instanceof NewClassTree;
        holds("6: throws what it has not made there", tree, isNew);
        if (isNew) {
            NewClassTree made = (NewClassTree) tree.getExpression();
            holds("6: " + tree, tree, EXCEPTIONS.contains(made.getIdentifier().toString())
                    && made.getArguments().stream().allMatch(each -> each.getKind() == Tree.Kind.STRING_LITERAL));
        }
        holds("6: a constructor throws", tree, !method.endsWith("<init>"));
        return super.visitThrow(tree, none);
    }

    @Override
    public Void visitTry(TryTree tree, Void none) {
        holds("6: finally, or try with resources", tree, tree.getFinallyBlock() == null && tree.getResources().isEmpty());
        for (CatchTree each : tree.getCatches()) {
            holds("6: catches " + each.getParameter(), each, EXCEPTIONS.contains(each.getParameter().getType().toString()));
        }
        return super.visitTry(tree, none);
    }

    @Override
    public Void visitForLoop(ForLoopTree tree, Void none) {
        holds("9: for without a bound", tree, tree.getCondition() != null);
        return super.visitForLoop(tree, none);
    }

    @Override
    public Void visitWhileLoop(WhileLoopTree tree, Void none) {
        holds("9: while (true)", tree, !tree.getCondition().toString().equals("(true)"));
        return super.visitWhileLoop(tree, none);
    }
}
