import com.sun.source.tree.*;
import com.sun.source.util.JavacTask;
import com.sun.source.util.TreePathScanner;
import com.sun.source.util.Trees;
import java.nio.file.Path;
import java.util.ArrayList;
import java.util.LinkedHashMap;
import java.util.LinkedHashSet;
import java.util.List;
import java.util.Map;
import java.util.Set;
import javax.lang.model.element.Element;
import javax.lang.model.element.ElementKind;
import javax.lang.model.element.ExecutableElement;
import javax.lang.model.element.Modifier;
import javax.lang.model.type.TypeKind;
import javax.lang.model.type.TypeMirror;
import javax.tools.JavaCompiler;
import javax.tools.StandardJavaFileManager;
import javax.tools.ToolProvider;

/** The rules of ../shared/LANGUAGE.md by their numbers, looked for in the program as the compiler sees it. */
public final class LanguageTest extends TreePathScanner<Void, Void> {
    private static final Set<String> FACE = Set.of(
        "ice", "feed", "law", "cut", "shut", "group", "settle", "minutes", "run", "square", "holeIs", "groupIs",
        "draws", "sound", "places", "closing", "rescue", "began", "fee", "row", "seed", "draw", "keep", "undo",
        "check", "count");
    // what the program uses of rule 4; more of it can be put here when it is used
    private static final Set<String> LIBRARY = Set.of(
        "java.lang.Math.max", "java.lang.Math.min", "java.lang.Math.abs", "java.lang.Integer.compare",
        "java.lang.Integer.bitCount", "java.lang.System.arraycopy", "java.lang.String.indexOf");
    private static final Set<String> TYPES = Set.of(
        "int", "long", "boolean", "char", "byte", "int[]", "long[]", "boolean[]", "char[]", "byte[]",
        "java.lang.String");
    private static final Set<String> CONSTANT_TYPES = Set.of(
        "int", "long", "boolean", "char", "java.lang.String", "int[]", "long[]", "char[]", "byte[]");
    private static final int MOST_DEEP = 8;
    private static final int MOST_PARAMETERS = 7;
    private static final int MOST_LINES = 60;
    private static final int MOST_CLASSES = 12;
    private static final int MOST_FIELDS = 20;

    private final Trees trees;
    private final Map<String, Set<String>> calls = new LinkedHashMap<>();
    private final Set<String> began = new LinkedHashSet<>();
    private CompilationUnitTree unit;
    private String method = "";
    private boolean making = false;
    private int classes = 0;
    private int wrong = 0;

    private LanguageTest(Trees trees) {
        this.trees = trees;
    }

    public static void main(String[] args) throws Exception {
        Path program = Path.of(args.length > 0 ? args[0] : "src/main/java/HoleFair.java");
        JavaCompiler compiler = ToolProvider.getSystemJavaCompiler();
        int wrong;
        try (StandardJavaFileManager files = compiler.getStandardFileManager(null, null, null)) {
            JavacTask task = (JavacTask) compiler.getTask(
                    null, files, null, List.of("-proc:none"), null, files.getJavaFileObjects(program));
            Iterable<? extends CompilationUnitTree> units = task.parse();
            task.analyze();
            LanguageTest test = new LanguageTest(Trees.instance(task));
            for (CompilationUnitTree unit : units) {
                test.unit = unit;
                test.scan(unit, null);
            }
            test.look();
            wrong = test.wrong;
        }
        System.out.println(wrong == 0 ? "the language is kept to" : wrong + " breaks of the language");
        if (wrong != 0) {
            System.exit(1);
        }
    }

    private void blame(int rule, String what) {
        wrong++;
        System.out.println("rule " + rule + ": " + what + (method.isEmpty() ? "" : ", in " + method));
    }

    private void blame(int rule, Tree at) {
        String text = at.toString();
        blame(rule, text.length() > 80 ? text.substring(0, 80) + " .." : text);
    }

    /** What can be said only when all has been seen. */
    private void look() {
        if (classes > MOST_CLASSES) {
            blame(11, classes + " classes");
        }
        for (String one : calls.keySet()) {
            List<String> chain = deepest(one, new ArrayList<>());
            if (began.contains(one) && chain.size() > MOST_DEEP) {
                blame(11, chain.size() + " calls deep: " + chain);
            }
        }
    }

    /** The longest chain of calls in which no method comes twice; the library's count, too. */
    private List<String> deepest(String from, List<String> open) {
        List<String> best = List.of();
        open.add(from);
        for (String to : calls.getOrDefault(from, Set.of())) {
            List<String> chain = open.contains(to) ? List.of() : deepest(to, open);
            best = chain.size() > best.size() ? chain : best;
        }
        open.remove(open.size() - 1);
        List<String> whole = new ArrayList<>(List.of(from));
        whole.addAll(best);
        return whole;
    }

    private static String nameOf(Element e) {
        return e.getEnclosingElement() + "." + e.getSimpleName();
    }

    private static boolean isOwn(Element e) {
        String owner = e.getEnclosingElement().toString();
        return owner.equals("HoleFair") || owner.startsWith("HoleFair.");
    }

    private static boolean isOwnType(String type) {
        return type.startsWith("HoleFair.") && !type.contains("<");
    }

    private Element here() {
        return trees.getElement(getCurrentPath());
    }

    @Override
    public Void visitImport(ImportTree tree, Void v) {
        blame(4, tree);
        return null;
    }

    @Override
    public Void visitClass(ClassTree tree, Void v) {
        classes++;
        Element e = here();
        Set<Modifier> m = e.getModifiers();
        boolean outer = e.getSimpleName().contentEquals("HoleFair");
        if (outer && !m.equals(Set.of(Modifier.PUBLIC, Modifier.FINAL))) {
            blame(1, "the class is " + m);
        }
        if (!outer && (!m.contains(Modifier.STATIC) || m.contains(Modifier.PUBLIC) || m.contains(Modifier.PROTECTED)
                || !isOwn(e))) {
            blame(2, "class " + e + " is " + m);
        }
        int fields = 0;
        for (Element one : e.getEnclosedElements()) {
            fields += one.getKind() == ElementKind.FIELD && !one.getModifiers().contains(Modifier.STATIC) ? 1 : 0;
        }
        if (fields > MOST_FIELDS) {
            blame(11, fields + " fields in " + e);
        }
        return super.visitClass(tree, v);
    }

    @Override
    public Void visitMethod(MethodTree tree, Void v) {
        Element e = here();
        Set<Modifier> m = e.getModifiers();
        method = nameOf(e);
        making = e.getKind() == ElementKind.CONSTRUCTOR;
        calls.computeIfAbsent(method, k -> new LinkedHashSet<>());
        boolean face = e.getEnclosingElement().toString().equals("HoleFair") && (making || FACE.contains(tree.getName().toString()));
        if (face) {
            began.add(method);
        }
        boolean named = FACE.contains(tree.getName().toString());
        boolean privateToOuter = m.contains(Modifier.PRIVATE) || !e.getEnclosingElement().toString().equals("HoleFair");
        if (face != m.contains(Modifier.PUBLIC) || named && !face || !face && !privateToOuter) {
            blame(1, "it is " + m);
        }
        if (tree.getParameters().size() > MOST_PARAMETERS) {
            blame(11, tree.getParameters().size() + " parameters");
        }
        long from = trees.getSourcePositions().getStartPosition(unit, tree);
        long to = trees.getSourcePositions().getEndPosition(unit, tree);
        long lines = from < 0 || to < 0 ? 1 : unit.getLineMap().getLineNumber(to) - unit.getLineMap().getLineNumber(from) + 1;
        if (lines > MOST_LINES) {
            blame(11, lines + " lines");
        }
        super.visitMethod(tree, v);
        method = "";
        making = false;
        return null;
    }

    @Override
    public Void visitVariable(VariableTree tree, Void v) {
        Element e = here();
        Set<Modifier> m = e.getModifiers();
        String type = e.asType().toString();
        if (!TYPES.contains(type) && !isOwnType(type)) {
            blame(3, type + " " + tree.getName());
        }
        if (e.getKind() == ElementKind.FIELD) {
            boolean outer = e.getEnclosingElement().toString().equals("HoleFair");
            if (outer && !m.contains(Modifier.PRIVATE) && !tree.getName().contentEquals("NONE")) {
                blame(1, tree);
            }
            boolean array = type.endsWith("[]");
            boolean written = tree.getInitializer() instanceof NewArrayTree made && made.getInitializers() != null;
            if (m.contains(Modifier.STATIC)
                    && (!m.contains(Modifier.FINAL) || !CONSTANT_TYPES.contains(type) || array && !written)) {
                blame(5, tree);
            }
        }
        return super.visitVariable(tree, v);
    }

    @Override
    public Void visitBlock(BlockTree tree, Void v) {
        if (method.isEmpty()) {
            blame(5, tree);
        }
        return super.visitBlock(tree, v);
    }

    @Override
    public Void visitMethodInvocation(MethodInvocationTree tree, Void v) {
        Element e = here();
        // each constructor calls that of the class above it, Object's
        boolean above = e.getKind() == ElementKind.CONSTRUCTOR;
        if (!above) {
            if (!isOwn(e) && !LIBRARY.contains(nameOf(e))) {
                blame(4, tree);
            }
            calls.computeIfAbsent(method, k -> new LinkedHashSet<>()).add(nameOf(e));
        }
        if (making && !above && !e.getModifiers().contains(Modifier.PRIVATE) && !e.getModifiers().contains(Modifier.STATIC)) {
            blame(12, tree);
        }
        return super.visitMethodInvocation(tree, v);
    }

    @Override
    public Void visitNewClass(NewClassTree tree, Void v) {
        Element e = here();
        if (!isOwn(e) || tree.getClassBody() != null) {
            blame(4, tree);
        }
        // stricter than rule 12: what a call needs is made with the object
        if (!method.isEmpty() && !making) {
            blame(12, tree);
        }
        calls.computeIfAbsent(method, k -> new LinkedHashSet<>()).add(nameOf(e));
        return super.visitNewClass(tree, v);
    }

    @Override
    public Void visitNewArray(NewArrayTree tree, Void v) {
        if (!method.isEmpty() && !making) {
            blame(12, tree);
        }
        return super.visitNewArray(tree, v);
    }

    @Override
    public Void visitTypeCast(TypeCastTree tree, Void v) {
        TypeMirror type = trees.getTypeMirror(getCurrentPath());
        if (!type.getKind().isPrimitive() || type.getKind() == TypeKind.DOUBLE || type.getKind() == TypeKind.FLOAT) {
            blame(6, tree);
        }
        return super.visitTypeCast(tree, v);
    }

    @Override
    public Void visitForLoop(ForLoopTree tree, Void v) {
        if (tree.getCondition() == null || tree.getUpdate().isEmpty()) {
            blame(9, tree);
        }
        return super.visitForLoop(tree, v);
    }

    @Override
    public Void visitWhileLoop(WhileLoopTree tree, Void v) {
        blame(9, tree);
        return super.visitWhileLoop(tree, v);
    }

    @Override
    public Void visitDoWhileLoop(DoWhileLoopTree tree, Void v) {
        blame(9, tree);
        return super.visitDoWhileLoop(tree, v);
    }

    @Override
    public Void visitAssignment(AssignmentTree tree, Void v) {
        lookAtChange(tree.getVariable());
        return super.visitAssignment(tree, v);
    }

    @Override
    public Void visitCompoundAssignment(CompoundAssignmentTree tree, Void v) {
        lookAtChange(tree.getVariable());
        return super.visitCompoundAssignment(tree, v);
    }

    @Override
    public Void visitUnary(UnaryTree tree, Void v) {
        if (tree.getKind().name().contains("CREMENT")) {
            lookAtChange(tree.getExpression());
        }
        return super.visitUnary(tree, v);
    }

    private void lookAtChange(Tree changed) {
        if (changed instanceof ArrayAccessTree access) {
            Element e = trees.getElement(new com.sun.source.util.TreePath(getCurrentPath(), access.getExpression()));
            if (e != null && e.getModifiers().contains(Modifier.STATIC)) {
                blame(5, changed);
            }
        }
    }

    @Override
    public Void visitBinary(BinaryTree tree, Void v) {
        boolean joins = tree.getKind() == Tree.Kind.PLUS || tree.getKind() == Tree.Kind.EQUAL_TO
                || tree.getKind() == Tree.Kind.NOT_EQUAL_TO;
        TypeMirror left = trees.getTypeMirror(new com.sun.source.util.TreePath(getCurrentPath(), tree.getLeftOperand()));
        TypeMirror right = trees.getTypeMirror(new com.sun.source.util.TreePath(getCurrentPath(), tree.getRightOperand()));
        if (joins && (isText(left) || isText(right))) {
            blame(10, tree);
        }
        return super.visitBinary(tree, v);
    }

    private static boolean isText(TypeMirror type) {
        return type != null && (type.toString().equals("java.lang.String") || type.toString().equals("java.lang.Integer"));
    }

    /** Trees of these kinds can't stand anywhere in the program. */
    @Override
    public Void scan(Tree tree, Void v) {
        if (tree != null) {
            switch (tree.getKind()) {
                case THROW: case TRY: case CATCH: case SYNCHRONIZED: case ASSERT: blame(6, tree); break;
                case LAMBDA_EXPRESSION: case MEMBER_REFERENCE: blame(2, tree); break;
                case ANNOTATION: case PACKAGE: blame(1, tree); break;
                case SWITCH_EXPRESSION: case INSTANCE_OF: case NULL_LITERAL: blame(6, tree); break;
                default: break;
            }
        }
        return super.scan(tree, v);
    }
}
