import com.sun.source.tree.*;
import com.sun.source.util.JavacTask;
import com.sun.source.util.SourcePositions;
import com.sun.source.util.TreePath;
import com.sun.source.util.TreePathScanner;
import com.sun.source.util.Trees;
import java.io.File;
import java.io.IOException;
import java.util.LinkedHashMap;
import java.util.LinkedHashSet;
import java.util.List;
import java.util.Map;
import java.util.Set;
import javax.lang.model.element.Element;
import javax.lang.model.element.ElementKind;
import javax.lang.model.element.ExecutableElement;
import javax.lang.model.element.Modifier;
import javax.lang.model.element.NestingKind;
import javax.lang.model.element.TypeElement;
import javax.lang.model.element.VariableElement;
import javax.lang.model.type.TypeKind;
import javax.lang.model.type.TypeMirror;
import javax.tools.StandardJavaFileManager;
import javax.tools.ToolProvider;

/**
 * The rules of ../shared/LANGUAGE.md, as far as they can be read from the program: the compiler reads it into a tree, and
 * each part of the tree is looked at. It allows no more than what HeapFile uses now; a rule may allow more.
 */
public final class LanguageTest {
    private static final Due DUE = new Due("the language");
    private static final String PROGRAM = "src/main/java/HeapFile.java";

    private static final Set<String> LIBRARY = Set.of(
        "java.lang.Math.min(int,int)", "java.lang.Math.max(int,int)", "java.lang.Object.Object()",
        "java.lang.System.arraycopy(java.lang.Object,int,java.lang.Object,int,int)");
    private static final Set<String> EXCEPTIONS = Set.of(
        "java.lang.IllegalStateException", "java.lang.IllegalArgumentException", "java.lang.IndexOutOfBoundsException");
    private static final Set<String> TYPES = Set.of("int", "long", "boolean", "float", "double", "int[]");
    private static final Set<Tree.Kind> OF_FRACTIONS = Set.of(
        Tree.Kind.PLUS, Tree.Kind.MINUS, Tree.Kind.MULTIPLY, Tree.Kind.DIVIDE, Tree.Kind.LESS_THAN, Tree.Kind.GREATER_THAN,
        Tree.Kind.LESS_THAN_EQUAL, Tree.Kind.GREATER_THAN_EQUAL);
    private static final Set<Tree.Kind> NEVER = Set.of(
        Tree.Kind.LAMBDA_EXPRESSION, Tree.Kind.MEMBER_REFERENCE, Tree.Kind.TRY, Tree.Kind.CATCH, Tree.Kind.SYNCHRONIZED,
        Tree.Kind.ASSERT, Tree.Kind.INSTANCE_OF, Tree.Kind.ENHANCED_FOR_LOOP, Tree.Kind.DO_WHILE_LOOP,
        Tree.Kind.SWITCH_EXPRESSION, Tree.Kind.ANNOTATION);

    private final Trees trees;
    private final CompilationUnitTree unit;
    private final Map<Element, Set<Element>> calls = new LinkedHashMap<>();
    private int classes;

    private LanguageTest(JavacTask task) throws IOException {
        unit = task.parse().iterator().next();
        task.analyze();
        trees = Trees.instance(task);
    }

    public static void main(String[] args) throws IOException {
        var compiler = ToolProvider.getSystemJavaCompiler();
        try (StandardJavaFileManager files = compiler.getStandardFileManager(null, null, null)) {
            var sources = files.getJavaFileObjects(new File(PROGRAM));
            new LanguageTest((JavacTask) compiler.getTask(null, files, null, List.of("-proc:none"), null, sources)).look();
        }
        DUE.end();
    }

    private void look() {
        DUE.sentence("one file, without a package line, one public class");
        DUE.same("package", String.valueOf(unit.getPackageName()), "null");
        DUE.same("imports", unit.getImports().size(), 0);
        DUE.same("classes of the file", unit.getTypeDecls().size(), 1);
        new Reader().scan(unit, null);
        DUE.sentence("rule 11: some twelve classes");
        DUE.same("at most 12 classes", classes <= 12, true);
        for (Element method : calls.keySet()) {
            DUE.sentence("rules 8 and 11: calls go at most eight deep, and none goes in a circle");
            int depth = depth(method, new LinkedHashSet<>());
            DUE.same(method + " is the first of " + depth + " calls, at most 8", depth <= 8, true);
        }
    }

    private int depth(Element method, Set<Element> open) {
        DUE.same("recursion: " + open + " " + method, open.add(method), true);
        int deepest = 0;
        for (Element called : open.size() > 20 ? Set.<Element>of() : calls.getOrDefault(method, Set.of())) {
            deepest = Math.max(deepest, depth(called, open));
        }
        open.remove(method);
        return deepest + 1;
    }

    private final class Reader extends TreePathScanner<Void, Void> {
        @Override
        public Void scan(Tree tree, Void nothing) {
            if (tree != null) {
                DUE.sentence("rules 2, 4, 6: what the program does without");
                DUE.same(tree.getKind() + " in " + tree, NEVER.contains(tree.getKind()), false);
            }
            return super.scan(tree, nothing);
        }

        // ---- classes, fields, methods

        @Override
        public Void visitClass(ClassTree tree, Void nothing) {
            classes++;
            TypeElement element = (TypeElement) trees.getElement(getCurrentPath());
            DUE.sentence("rules 1 and 2: static classes, private or package-visible, inside one public class");
            Set<Modifier> modifiers = element.getModifiers();
            boolean outside = element.getNestingKind() == NestingKind.TOP_LEVEL;
            DUE.same(element + " is public", modifiers.contains(Modifier.PUBLIC), outside);
            DUE.same(element + " is static", modifiers.contains(Modifier.STATIC), !outside);
            DUE.same(element + " is the file's or a member", outside || element.getNestingKind() == NestingKind.MEMBER, true);
            DUE.same(element + " extends", String.valueOf(element.getSuperclass()), "java.lang.Object");
            DUE.same(element + " implements", element.getInterfaces().size(), 0);
            int fields = 0;
            for (Element e : element.getEnclosedElements()) {
                fields += e.getKind() == ElementKind.FIELD && !e.getModifiers().contains(Modifier.STATIC) ? 1 : 0;
            }
            DUE.sentence("rule 11: some twenty fields");
            DUE.same(element + " has at most 20 fields", fields <= 20, true);
            return super.visitClass(tree, nothing);
        }

        @Override
        public Void visitVariable(VariableTree tree, Void nothing) {
            VariableElement element = (VariableElement) trees.getElement(getCurrentPath());
            DUE.sentence("rule 3: types");
            DUE.same("the type of " + tree, mayBe(element.asType()), true);
            if (element.getModifiers().contains(Modifier.STATIC)) {
                DUE.sentence("rule 5: static fields are final constants");
                DUE.same(element + " is a constant", element.getConstantValue() != null, true);
            }
            return super.visitVariable(tree, nothing);
        }

        private boolean mayBe(TypeMirror type) {
            String name = type.toString();
            return TYPES.contains(name) || name.matches("HeapFile\\.\\w+(\\[\\])?");
        }

        @Override
        public Void visitBlock(BlockTree tree, Void nothing) {
            boolean ofClass = getCurrentPath().getParentPath().getLeaf() instanceof ClassTree;
            DUE.sentence("rule 5: no static initialiser block");
            DUE.same("an initialiser block", ofClass, false);
            return super.visitBlock(tree, nothing);
        }

        @Override
        public Void visitMethod(MethodTree tree, Void nothing) {
            ExecutableElement method = (ExecutableElement) trees.getElement(getCurrentPath());
            calls.putIfAbsent(method, new LinkedHashSet<>());
            DUE.sentence("rule 11: at most seven parameters, some sixty lines");
            DUE.same(method + " has at most 7 parameters", tree.getParameters().size() <= 7, true);
            SourcePositions positions = trees.getSourcePositions();
            long first = positions.getStartPosition(unit, tree);
            if (first >= 0 && positions.getEndPosition(unit, tree) > first) {
                long lines = unit.getLineMap().getLineNumber(positions.getEndPosition(unit, tree))
                    - unit.getLineMap().getLineNumber(first) + 1;
                DUE.same(method + " has " + lines + " lines, at most 60", lines <= 60, true);
            }
            return super.visitMethod(tree, nothing);
        }

        /** The method around what is looked at, or null in a field's initialiser. */
        private MethodTree around() {
            for (TreePath path = getCurrentPath(); path != null; path = path.getParentPath()) {
                if (path.getLeaf() instanceof MethodTree method) {
                    return method;
                }
            }
            return null;
        }

        private boolean inConstructor() {
            MethodTree method = around();
            return method == null || method.getReturnType() == null;
        }

        // ---- calls and new objects

        @Override
        public Void visitMethodInvocation(MethodInvocationTree tree, Void nothing) {
            calls(trees.getElement(getCurrentPath()));
            return super.visitMethodInvocation(tree, nothing);
        }

        private void calls(Element called) {
            String name = called.getEnclosingElement() + "." + (called.getKind() == ElementKind.CONSTRUCTOR
                ? called.toString().replaceAll(".*?(\\w+\\(.*)", "$1") : called.toString());
            if (!name.startsWith("HeapFile")) {
                DUE.sentence("rule 4: the library, and only what stands there");
                DUE.same(name + " is of the library", LIBRARY.contains(name), true);
            } else if (around() != null) {
                Element caller = trees.getElement(trees.getPath(unit, around()));
                calls.computeIfAbsent(caller, e -> new LinkedHashSet<>()).add(called);
            }
        }

        @Override
        public Void visitNewClass(NewClassTree tree, Void nothing) {
            String type = trees.getTypeMirror(getCurrentPath()).toString();
            if (getCurrentPath().getParentPath().getLeaf() instanceof ThrowTree) {
                DUE.sentence("rule 6: the exceptions that the document names, with a written text");
                DUE.same(type + " is thrown", EXCEPTIONS.contains(type), true);
                DUE.same(tree + " has a text", tree.getArguments().size() == 1
                    && tree.getArguments().get(0).getKind() == Tree.Kind.STRING_LITERAL, true);
            } else {
                DUE.sentence("rule 12: objects are made in constructors alone");
                DUE.same("new " + type, type.startsWith("HeapFile."), true);
                DUE.same(tree + " in a constructor", inConstructor(), true);
            }
            return super.visitNewClass(tree, nothing);
        }

        @Override
        public Void visitNewArray(NewArrayTree tree, Void nothing) {
            DUE.sentence("rule 12: arrays are made in constructors alone");
            DUE.same(tree + " in a constructor", inConstructor(), true);
            return super.visitNewArray(tree, nothing);
        }

        @Override
        public Void visitThrow(ThrowTree tree, Void nothing) {
            DUE.sentence("rule 6: throw new E(\"a written text\"), and not in a constructor");
            DUE.same(tree + " throws a new exception", tree.getExpression().getKind(), Tree.Kind.NEW_CLASS);
            DUE.same(tree + " in a constructor", inConstructor(), false);
            return super.visitThrow(tree, nothing);
        }

        // ---- indices, divisors, numbers, texts

        @Override
        public Void visitArrayAccess(ArrayAccessTree tree, Void nothing) {
            DUE.sentence("rule 7: an index is looked at before it is used");
            DUE.same(tree + " in a method that looks at the length", around() != null
                && around().getBody().toString().contains(tree.getExpression() + ".length"), true);
            return super.visitArrayAccess(tree, nothing);
        }

        @Override
        public Void visitTypeCast(TypeCastTree tree, Void nothing) {
            DUE.sentence("rule 6: a cast only behind the test that makes it safe");
            DUE.same(tree + " casts numbers", trees.getTypeMirror(getCurrentPath()).getKind().isPrimitive(), true);
            return super.visitTypeCast(tree, nothing);
        }

        @Override
        public Void visitBinary(BinaryTree tree, Void nothing) {
            TypeMirror left = trees.getTypeMirror(new TreePath(getCurrentPath(), tree.getLeftOperand()));
            boolean fraction = left.getKind() == TypeKind.FLOAT || left.getKind() == TypeKind.DOUBLE;
            if (fraction) {
                DUE.sentence("rule 3: on doubles and floats only + - * /, comparisons and casts");
                DUE.same(tree.getKind() + " of fractions", OF_FRACTIONS.contains(tree.getKind()), true);
            } else if (tree.getKind() == Tree.Kind.DIVIDE || tree.getKind() == Tree.Kind.REMAINDER) {
                DUE.sentence("rule 7: a divisor is looked at before it divides");
                Element divisor = trees.getElement(new TreePath(getCurrentPath(), tree.getRightOperand()));
                Object value = divisor instanceof VariableElement v ? v.getConstantValue() : null;
                DUE.same(tree + " divides by a constant other than 0", value != null && !value.equals(0), true);
            }
            DUE.sentence("rule 10: texts are not joined by +");
            DUE.same(tree + " joins texts", left.toString().equals("java.lang.String"), false);
            return super.visitBinary(tree, nothing);
        }

        @Override
        public Void visitLiteral(LiteralTree tree, Void nothing) {
            DUE.sentence("rule 4: signs of constants are 1 to 127");
            String signs = tree.getValue() instanceof String || tree.getValue() instanceof Character
                ? tree.getValue().toString() : "";
            DUE.same(tree + " has signs 1 to 127", signs.chars().allMatch(c -> c >= 1 && c <= 127), true);
            return super.visitLiteral(tree, nothing);
        }

        // ---- loops

        @Override
        public Void visitForLoop(ForLoopTree tree, Void nothing) {
            DUE.sentence("rule 9: every loop has an end that can be seen from its own lines");
            String counter = tree.getInitializer().size() == 1 && tree.getInitializer().get(0) instanceof VariableTree v
                ? v.getName().toString() : "no counter";
            DUE.same(tree.getCondition() + " compares the counter",
                String.valueOf(tree.getCondition()).matches("\\(?" + counter + " (<|<=) .*"), true);
            DUE.same(tree.getUpdate() + " counts", tree.getUpdate().toString(), counter + "++;");
            DUE.same(counter + " is set by nothing else",
                tree.getStatement().toString().matches("(?s).*\\b" + counter + "(\\+\\+|--| [-+*/]?= ).*"), false);
            return super.visitForLoop(tree, nothing);
        }

        @Override
        public Void visitWhileLoop(WhileLoopTree tree, Void nothing) {
            DUE.sentence("rule 9: every loop has an end that can be seen from its own lines");
            String condition = tree.getCondition().toString();
            String counter = condition.replaceAll("^\\(*(\\w+) > 0.*", "$1");
            DUE.same(condition + " compares a counter with 0, which the body counts down",
                tree.getStatement().toString().contains(counter + "--;"), true);
            return super.visitWhileLoop(tree, nothing);
        }
    }
}
