import com.sun.source.tree.AssertTree;
import com.sun.source.tree.BlockTree;
import com.sun.source.tree.ClassTree;
import com.sun.source.tree.CompilationUnitTree;
import com.sun.source.tree.DoWhileLoopTree;
import com.sun.source.tree.ExpressionTree;
import com.sun.source.tree.ForLoopTree;
import com.sun.source.tree.LambdaExpressionTree;
import com.sun.source.tree.LiteralTree;
import com.sun.source.tree.MemberReferenceTree;
import com.sun.source.tree.MethodInvocationTree;
import com.sun.source.tree.MethodTree;
import com.sun.source.tree.NewArrayTree;
import com.sun.source.tree.NewClassTree;
import com.sun.source.tree.SynchronizedTree;
import com.sun.source.tree.ThrowTree;
import com.sun.source.tree.Tree;
import com.sun.source.tree.TryTree;
import com.sun.source.tree.TypeCastTree;
import com.sun.source.tree.VariableTree;
import com.sun.source.tree.WhileLoopTree;
import com.sun.source.util.JavacTask;
import com.sun.source.util.TreePathScanner;
import com.sun.source.util.Trees;
import java.io.IOException;
import java.nio.file.Path;
import java.util.ArrayDeque;
import java.util.Collection;
import java.util.Deque;
import java.util.HashMap;
import java.util.HashSet;
import java.util.List;
import java.util.Map;
import java.util.Set;
import java.util.TreeMap;
import java.util.TreeSet;
import javax.lang.model.element.Element;
import javax.lang.model.element.ElementKind;
import javax.lang.model.element.ExecutableElement;
import javax.lang.model.element.Modifier;
import javax.lang.model.element.TypeElement;
import javax.lang.model.type.TypeKind;
import javax.lang.model.type.TypeMirror;
import javax.lang.model.util.ElementFilter;
import javax.tools.JavaCompiler;
import javax.tools.StandardJavaFileManager;
import javax.tools.ToolProvider;

/** The source, as the compiler reads it, keeps to the rules of ../shared/LANGUAGE.md, by their numbers. */
public final class LanguageTest {
    private static final Path SOURCE = Path.of("src/main/java/WideTurn.java");
    /** Rule 4, so far as it is used here. */
    private static final Set<String> LIBRARY = Set.of("Math.min", "Math.max", "Math.abs", "Integer.bitCount",
            "Arrays.fill", "System.arraycopy", "Object.<init>");
    /** Rule 8: what calls itself, or one another, and has its depth as an argument. */
    private static final Set<String> RECURSIVE = Set.of("WideTurn.waysSeen", "WideTurn.waysBehind");
    private static final int DEEPEST = 8, CLASSES = 12, FIELDS = 20, PARAMETERS = 7;

    private final Check check = new Check("language");
    private final Trees trees;
    private final CompilationUnitTree unit;
    private final Map<String, Set<String>> calls = new TreeMap<>();
    private final Map<ExecutableElement, String> own = new HashMap<>();
    private int classes;

    private LanguageTest(Trees trees, CompilationUnitTree unit) {
        this.trees = trees;
        this.unit = unit;
    }

    public static void main(String[] args) throws IOException {
        JavaCompiler compiler = ToolProvider.getSystemJavaCompiler();
        StandardJavaFileManager files = compiler.getStandardFileManager(null, null, null);
        List<String> options = List.of("-proc:none");
        JavacTask task = (JavacTask) compiler.getTask(null, files, null, options, null, files.getJavaFileObjects(SOURCE));
        CompilationUnitTree unit = task.parse().iterator().next();
        task.analyze();
        LanguageTest test = new LanguageTest(Trees.instance(task), unit);
        test.look();
        test.check.end();
    }

    private void look() {
        check.that("1: no package", unit.getPackage() == null);
        check.that("1: one class in the file", unit.getTypeDecls().size() == 1);
        new Methods().scan(unit, null);
        new Rules().scan(unit, null);
        check.that("11: some twelve classes, not " + classes, classes <= CLASSES);
        whatIsRecursive();
        callsAreNotTooDeep();
    }

    private static String nameOf(Element element) {
        return element.getEnclosingElement().getSimpleName() + "." + element.getSimpleName();
    }

    /** The methods of one's own, all of which have to be known ahead of what calls them. */
    private final class Methods extends TreePathScanner<Void, Void> {
        @Override
        public Void visitMethod(MethodTree method, Void none) {
            Element element = trees.getElement(getCurrentPath());
            own.put((ExecutableElement) element, nameOf(element));
            calls.put(nameOf(element), new TreeSet<>());
            return super.visitMethod(method, none);
        }
    }

    private final class Rules extends TreePathScanner<Void, Void> {
        private ExecutableElement within;

        private void ban(String what, Tree tree) {
            long line = unit.getLineMap().getLineNumber(trees.getSourcePositions().getStartPosition(unit, tree));
            check.that(what + ", in line " + line, false);
        }

        @Override
        public Void visitClass(ClassTree type, Void none) {
            classes++;
            TypeElement element = (TypeElement) trees.getElement(getCurrentPath());
            boolean outer = element.getEnclosingElement().getKind() == ElementKind.PACKAGE;
            Set<Modifier> is = element.getModifiers();
            check.that("1: " + element + " is public and final", !outer || is.equals(Set.of(Modifier.PUBLIC, Modifier.FINAL)));
            check.that("2: " + element + " is static, not local", outer || is.contains(Modifier.STATIC)
                    && !is.contains(Modifier.PUBLIC) && !is.contains(Modifier.PROTECTED));
            long fields = ElementFilter.fieldsIn(element.getEnclosedElements()).stream()
                    .filter(field -> !field.getModifiers().contains(Modifier.STATIC)).count();
            check.that("11: " + element + " has some twenty fields", fields <= FIELDS);
            for (Tree member : type.getMembers()) {
                check.that("5: no block of " + element, !(member instanceof BlockTree));
            }
            return super.visitClass(type, none);
        }

        @Override
        public Void visitMethod(MethodTree method, Void none) {
            ExecutableElement outer = within;
            within = (ExecutableElement) trees.getElement(getCurrentPath());
            check.that("11: the parameters of " + nameOf(within), method.getParameters().size() <= PARAMETERS);
            check.that("6: " + nameOf(within) + " tells no exceptions", method.getThrows().isEmpty());
            super.visitMethod(method, none);
            within = outer;
            return null;
        }

        @Override
        public Void visitVariable(VariableTree variable, Void none) {
            Element element = trees.getElement(getCurrentPath());
            check.that("3: the type of " + variable, isAllowed(element.asType()));
            boolean kept = element.getKind() == ElementKind.FIELD && element.getModifiers().contains(Modifier.STATIC);
            if (kept) {
                check.that("5: " + variable + " is final", element.getModifiers().contains(Modifier.FINAL));
                check.that("5: " + variable + " is a constant, or written out", isWrittenOut(variable));
            }
            return super.visitVariable(variable, none);
        }

        private boolean isWrittenOut(VariableTree variable) {
            ExpressionTree value = variable.getInitializer();
            if (value instanceof NewArrayTree) {
                for (ExpressionTree one : ((NewArrayTree) value).getInitializers()) {
                    Tree.Kind kind = one.getKind();
                    boolean below = kind == Tree.Kind.UNARY_MINUS;
                    if (!(one instanceof LiteralTree) && !below) {
                        return false;
                    }
                }
                return true;
            }
            return ((javax.lang.model.element.VariableElement) trees.getElement(getCurrentPath())).getConstantValue() != null;
        }

        private boolean isAllowed(TypeMirror type) {
            if (type.getKind() == TypeKind.ARRAY) {
                TypeMirror part = ((javax.lang.model.type.ArrayType) type).getComponentType();
                return part.getKind() != TypeKind.ARRAY && isAllowed(part);
            }
            String name = type.toString();
            return type.getKind() == TypeKind.INT || type.getKind() == TypeKind.LONG || type.getKind() == TypeKind.BOOLEAN
                    || name.equals("WideTurn") || name.startsWith("WideTurn.");
        }

        @Override
        public Void visitMethodInvocation(MethodInvocationTree call, Void none) {
            called((ExecutableElement) trees.getElement(getCurrentPath()), isOfSuper(call));
            return super.visitMethodInvocation(call, none);
        }

        private boolean isOfSuper(MethodInvocationTree call) {
            return call.getMethodSelect().toString().startsWith("super");
        }

        @Override
        public Void visitNewClass(NewClassTree made, Void none) {
            check.that("2: " + made + " has no body", made.getClassBody() == null);
            called((ExecutableElement) trees.getElement(getCurrentPath()), true);
            return super.visitNewClass(made, none);
        }

        /** What is called may be any that stands in its place, but if it is called by name alone. */
        private void called(ExecutableElement method, boolean alone) {
            if (!own.containsKey(method)) {
                check.that("4: " + nameOf(method) + " is in the library", LIBRARY.contains(nameOf(method)));
                return;
            }
            if (within == null) {
                return;
            }
            if (within.getKind() == ElementKind.CONSTRUCTOR && method.getKind() != ElementKind.CONSTRUCTOR) {
                boolean fixed = method.getModifiers().contains(Modifier.STATIC) || method.getModifiers().contains(Modifier.PRIVATE);
                check.that("12: the constructor " + nameOf(within) + " calls what is fixed", fixed);
            }
            for (ExecutableElement one : own.keySet()) {
                if (one.equals(method) || !alone && standsFor(one, method)) {
                    calls.get(nameOf(within)).add(own.get(one));
                }
            }
        }

        private boolean standsFor(ExecutableElement one, ExecutableElement method) {
            return one.getSimpleName().equals(method.getSimpleName()) && one.getKind() == ElementKind.METHOD
                    && isBelow((TypeElement) one.getEnclosingElement(), (TypeElement) method.getEnclosingElement());
        }

        private boolean isBelow(TypeElement type, TypeElement above) {
            for (Element at = type; at instanceof TypeElement;) {
                if (at.equals(above)) {
                    return true;
                }
                TypeMirror next = ((TypeElement) at).getSuperclass();
                at = next.getKind() == TypeKind.NONE ? null : ((javax.lang.model.type.DeclaredType) next).asElement();
            }
            return false;
        }

        @Override
        public Void visitForLoop(ForLoopTree loop, Void none) {
            check.that("9: a loop has its end: " + loop.getCondition(), loop.getCondition() != null && loop.getUpdate().size() == 1);
            return super.visitForLoop(loop, none);
        }

        @Override
        public Void visitWhileLoop(WhileLoopTree loop, Void none) {
            ban("9: a loop without a counter", loop);
            return super.visitWhileLoop(loop, none);
        }

        @Override
        public Void visitDoWhileLoop(DoWhileLoopTree loop, Void none) {
            ban("9: a loop without a counter", loop);
            return super.visitDoWhileLoop(loop, none);
        }

        @Override
        public Void visitLambdaExpression(LambdaExpressionTree lambda, Void none) {
            ban("2: a lambda", lambda);
            return super.visitLambdaExpression(lambda, none);
        }

        @Override
        public Void visitMemberReference(MemberReferenceTree reference, Void none) {
            ban("2: a method reference", reference);
            return super.visitMemberReference(reference, none);
        }

        @Override
        public Void visitThrow(ThrowTree thrown, Void none) {
            ban("6: throw", thrown);
            return super.visitThrow(thrown, none);
        }

        @Override
        public Void visitTry(TryTree tried, Void none) {
            ban("6: try", tried);
            return super.visitTry(tried, none);
        }

        @Override
        public Void visitSynchronized(SynchronizedTree block, Void none) {
            ban("6: synchronized", block);
            return super.visitSynchronized(block, none);
        }

        @Override
        public Void visitAssert(AssertTree asserted, Void none) {
            ban("6: assert", asserted);
            return super.visitAssert(asserted, none);
        }

        @Override
        public Void visitTypeCast(TypeCastTree cast, Void none) {
            check.that("6: a cast among numbers alone: " + cast, cast.getType().getKind() == Tree.Kind.PRIMITIVE_TYPE);
            return super.visitTypeCast(cast, none);
        }
    }

    // ---- rules 8 and 11: the calls that stand open at once

    private void whatIsRecursive() {
        Set<String> found = new TreeSet<>();
        for (String name : calls.keySet()) {
            Deque<String> open = new ArrayDeque<>(calls.get(name));
            Set<String> met = new HashSet<>();
            while (!open.isEmpty()) {
                String next = open.pop();
                if (met.add(next)) {
                    open.addAll(calls.getOrDefault(next, Set.of()));
                }
            }
            if (met.contains(name)) {
                found.add(name);
            }
        }
        check.that("8: recursive is what is told here, not " + found, found.equals(new TreeSet<>(RECURSIVE)));
    }

    private void callsAreNotTooDeep() {
        int deepest = 0;
        for (String name : calls.keySet()) {
            deepest = Math.max(deepest, depth(name, new HashSet<>()));
        }
        check.that("11: calls that are no recursion go at most eight deep, not " + deepest, deepest <= DEEPEST);
        check.that("that calls were found", deepest > 4 && total(calls.values()) > 200);
    }

    /** What is recursive is counted once. */
    private int depth(String name, Set<String> open) {
        if (!open.add(name)) {
            return 0;
        }
        int deepest = 0;
        for (String next : calls.get(name)) {
            deepest = Math.max(deepest, depth(next, open));
        }
        open.remove(name);
        return deepest + 1;
    }

    private static int total(Collection<Set<String>> sets) {
        int total = 0;
        for (Set<String> set : sets) {
            total += set.size();
        }
        return total;
    }
}
