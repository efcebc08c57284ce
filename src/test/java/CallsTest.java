import com.sun.source.tree.CompilationUnitTree;
import com.sun.source.tree.MethodInvocationTree;
import com.sun.source.tree.MethodTree;
import com.sun.source.tree.NewClassTree;
import com.sun.source.tree.Tree;
import com.sun.source.tree.VariableTree;
import com.sun.source.util.JavacTask;
import com.sun.source.util.TreePathScanner;
import com.sun.source.util.Trees;
import java.nio.file.Path;
import java.util.HashMap;
import java.util.HashSet;
import java.util.LinkedHashMap;
import java.util.LinkedHashSet;
import java.util.List;
import java.util.Map;
import java.util.Set;
import javax.lang.model.element.Element;
import javax.lang.model.element.ElementKind;
import javax.lang.model.element.ExecutableElement;
import javax.lang.model.element.Modifier;
import javax.lang.model.element.TypeElement;
import javax.lang.model.element.VariableElement;
import javax.lang.model.type.ArrayType;
import javax.lang.model.type.DeclaredType;
import javax.lang.model.type.TypeKind;
import javax.lang.model.type.TypeMirror;
import javax.tools.StandardJavaFileManager;
import javax.tools.ToolProvider;

/** Rules 3, 4, 8 and 11 of LANGUAGE.md, as the compiler sees the program: types, the library, recursion, depth. */
public final class CallsTest {
    private static final String PROGRAM = "src/main/java/HeapSquares.java";
    private static final int DEEPEST = 8;
    private static final Set<String> OVER_NUMBERS = Set.of("java.lang.Integer", "java.lang.Long", "java.lang.Math");

    private static final Map<ExecutableElement, Set<ExecutableElement>> CALLED = new LinkedHashMap<>();
    private static final Map<ExecutableElement, Integer> DEPTHS = new HashMap<>();
    private static final Set<ExecutableElement> OPEN = new HashSet<>();

    private static int wrong = 0;

    public static void main(String[] args) throws Exception {
        look();
        int deepest = 0;
        for (ExecutableElement method : CALLED.keySet()) {
            int depth = depthOf(method);
            check(depth <= DEEPEST, told(method) + " opens calls " + depth + " deep");
            deepest = Math.max(deepest, depth);
        }
        check(CALLED.size() > 30, "only " + CALLED.size() + " methods were seen");
        System.out.println(wrong == 0 ? "all calls are in the language, " + deepest + " deep at most"
            : wrong + " places are out of the language");
        if (wrong != 0) {
            System.exit(1);
        }
    }

    private static void check(boolean holds, String what) {
        if (!holds) {
            wrong++;
            System.out.println(what);
        }
    }

    private static void look() throws Exception {
        var compiler = ToolProvider.getSystemJavaCompiler();
        try (StandardJavaFileManager files = compiler.getStandardFileManager(null, null, null)) {
            JavacTask task = (JavacTask) compiler.getTask(null, files, null, List.of("-proc:none"), null,
                files.getJavaFileObjects(Path.of(PROGRAM)));
            Iterable<? extends CompilationUnitTree> units = task.parse();
            task.analyze();
            for (CompilationUnitTree unit : units) {
                new Scanner(Trees.instance(task)).scan(unit, null);
            }
        }
    }

    private static String told(Element method) {
        return method.getEnclosingElement() + "." + method;
    }

    private static boolean isOwn(Element element) {
        Element at = element;
        while (at != null && at.getKind() != ElementKind.PACKAGE) {
            if (at.getSimpleName().contentEquals("HeapSquares")) {
                return true;
            }
            at = at.getEnclosingElement();
        }
        return false;
    }

    private static boolean isIntOrLong(TypeMirror type) {
        return type.getKind() == TypeKind.INT || type.getKind() == TypeKind.LONG;
    }

    private static boolean isOwnClass(TypeMirror type) {
        return type instanceof DeclaredType declared && isOwn(declared.asElement());
    }

    private static boolean isInLanguage(TypeMirror type) {
        if (type instanceof ArrayType row) {
            TypeMirror in = row.getComponentType();
            boolean numbers = in instanceof ArrayType inner && inner.getComponentType().getKind().isPrimitive();
            return numbers || in.getKind().isPrimitive() || isOwnClass(in);
        }
        return type.getKind().isPrimitive() || isOwnClass(type);
    }

    private static boolean isInLibrary(ExecutableElement called) {
        String type = ((TypeElement) called.getEnclosingElement()).getQualifiedName().toString();
        String name = called.getSimpleName().toString();
        if (type.equals("java.lang.Object") && called.getKind() == ElementKind.CONSTRUCTOR) {
            return true;
        }
        if (type.equals("java.lang.System") && name.equals("arraycopy")) {
            return true;
        }
        return OVER_NUMBERS.contains(type) && called.getModifiers().contains(Modifier.STATIC)
            && !name.endsWith("Exact") && isIntOrLong(called.getReturnType())
            && called.getParameters().stream().allMatch(parameter -> isIntOrLong(parameter.asType()));
    }

    /** How deep the calls go from a method on, itself and the library counted; one that calls itself counts once. */
    private static int depthOf(ExecutableElement method) {
        Integer known = DEPTHS.get(method);
        if (known != null) {
            return known;
        }
        if (!OPEN.add(method)) {
            check(false, told(method) + " is called again by what it calls");
            return 0;
        }
        int deepest = 0;
        for (ExecutableElement called : CALLED.getOrDefault(method, Set.of())) {
            if (called.equals(method)) {
                check(method.getModifiers().containsAll(Set.of(Modifier.PRIVATE, Modifier.STATIC)),
                    told(method) + " calls itself and isn't private and static");
            } else {
                deepest = Math.max(deepest, depthOf(called));
            }
        }
        OPEN.remove(method);
        DEPTHS.put(method, deepest + 1);
        return deepest + 1;
    }

    private static final class Scanner extends TreePathScanner<Void, Void> {
        private final Trees trees;
        private ExecutableElement in = null;

        Scanner(Trees trees) {
            this.trees = trees;
        }

        @Override
        public Void visitMethod(MethodTree method, Void nothing) {
            ExecutableElement around = in;
            in = (ExecutableElement) trees.getElement(getCurrentPath());
            CALLED.put(in, new LinkedHashSet<>());
            super.visitMethod(method, nothing);
            in = around;
            return null;
        }

        @Override
        public Void visitMethodInvocation(MethodInvocationTree call, Void nothing) {
            note(call);
            return super.visitMethodInvocation(call, nothing);
        }

        @Override
        public Void visitNewClass(NewClassTree made, Void nothing) {
            note(made);
            return super.visitNewClass(made, nothing);
        }

        @Override
        public Void visitVariable(VariableTree variable, Void nothing) {
            VariableElement element = (VariableElement) trees.getElement(getCurrentPath());
            check(isInLanguage(element.asType()), element + " is of the type " + element.asType());
            return super.visitVariable(variable, nothing);
        }

        private void note(Tree tree) {
            ExecutableElement called = (ExecutableElement) trees.getElement(getCurrentPath());
            check(isOwn(called) || isInLibrary(called), told(called) + " is not in the library");
            // What a field begins with is made by the constructor, and goes no deeper than its own fields do.
            if (in != null) {
                CALLED.get(in).add(called);
            }
        }
    }
}
