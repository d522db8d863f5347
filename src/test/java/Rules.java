import com.sun.source.tree.ArrayAccessTree;
import com.sun.source.tree.BinaryTree;
import com.sun.source.tree.BlockTree;
import com.sun.source.tree.ClassTree;
import com.sun.source.tree.CompilationUnitTree;
import com.sun.source.tree.CompoundAssignmentTree;
import com.sun.source.tree.DoWhileLoopTree;
import com.sun.source.tree.EnhancedForLoopTree;
import com.sun.source.tree.ExpressionTree;
import com.sun.source.tree.ForLoopTree;
import com.sun.source.tree.IdentifierTree;
import com.sun.source.tree.LiteralTree;
import com.sun.source.tree.MethodInvocationTree;
import com.sun.source.tree.MethodTree;
import com.sun.source.tree.NewArrayTree;
import com.sun.source.tree.NewClassTree;
import com.sun.source.tree.Tree;
import com.sun.source.tree.TypeCastTree;
import com.sun.source.tree.VariableTree;
import com.sun.source.tree.WhileLoopTree;
import com.sun.source.util.JavacTask;
import com.sun.source.util.TreePath;
import com.sun.source.util.TreePathScanner;
import com.sun.source.util.Trees;
import java.io.IOException;
import java.net.URI;
import java.util.ArrayList;
import java.util.EnumSet;
import java.util.HashSet;
import java.util.LinkedHashMap;
import java.util.LinkedHashSet;
import java.util.List;
import java.util.Map;
import java.util.Set;
import javax.lang.model.element.Element;
import javax.lang.model.element.ElementKind;
import javax.lang.model.element.ExecutableElement;
import javax.lang.model.element.Modifier;
import javax.lang.model.element.VariableElement;
import javax.lang.model.type.ArrayType;
import javax.lang.model.type.TypeKind;
import javax.lang.model.type.TypeMirror;
import javax.tools.Diagnostic;
import javax.tools.SimpleJavaFileObject;
import javax.tools.ToolProvider;

/** LANGUAGE.md held against the source as the compiler reads it. Each finding begins with the rule's number. */
final class Rules extends TreePathScanner<Void, Void> {
    private static final Set<Tree.Kind> RULED_OUT = EnumSet.of(
        Tree.Kind.THROW, Tree.Kind.TRY, Tree.Kind.CATCH, Tree.Kind.SYNCHRONIZED, Tree.Kind.ASSERT, Tree.Kind.IMPORT,
        Tree.Kind.PACKAGE, Tree.Kind.LAMBDA_EXPRESSION, Tree.Kind.MEMBER_REFERENCE, Tree.Kind.ANNOTATION,
        Tree.Kind.SWITCH_EXPRESSION, Tree.Kind.YIELD, Tree.Kind.BINDING_PATTERN,
        Tree.Kind.DOUBLE_LITERAL, Tree.Kind.FLOAT_LITERAL);
    private static final Set<String> LIBRARY = Set.of(
        "java.lang.Object.Object", "java.lang.String.length", "java.lang.String.charAt", "java.lang.Math.max",
        "java.lang.Math.min", "java.lang.Math.abs", "java.lang.Math.floorMod", "java.lang.Integer.bitCount",
        "java.lang.Integer.compare", "java.lang.System.arraycopy");
    /** What stands for a method outside of all of them. */
    private static final String FIRST_VALUES = "first values";
    private static final Set<TypeKind> PLAIN = EnumSet.of(
        TypeKind.INT, TypeKind.LONG, TypeKind.SHORT, TypeKind.BYTE, TypeKind.CHAR, TypeKind.BOOLEAN);

    private final List<String> found = new ArrayList<>();
    private final Map<String, Set<String>> calls = new LinkedHashMap<>();
    private final Trees trees;
    private final CompilationUnitTree unit;
    private int classes = 0;
    private String method = FIRST_VALUES;
    /** Names that the method at hand looks at, and those that are an index or a divisor and must be among them. */
    private final Set<String> lookedAt = new HashSet<>();
    private final Set<String> used = new LinkedHashSet<>();

    private Rules(Trees trees, CompilationUnitTree unit) {
        this.trees = trees;
        this.unit = unit;
    }

    /** All that the source has and the rules do not. */
    static List<String> broken(String source) throws IOException {
        List<Diagnostic<?>> wrong = new ArrayList<>();
        JavacTask task = (JavacTask) ToolProvider.getSystemJavaCompiler()
            .getTask(null, null, wrong::add, List.of("-proc:none"), null, List.of(new Source(source)));
        CompilationUnitTree unit = task.parse().iterator().next();
        task.analyze();
        Rules rules = new Rules(Trees.instance(task), unit);
        wrong.forEach(mistake -> rules.found.add("it does not compile: " + mistake));
        if (wrong.isEmpty()) {
            rules.scan(unit, null);
            rules.atTheEnd();
        }
        return rules.found;
    }

    private static final class Source extends SimpleJavaFileObject {
        private final String text;

        Source(String text) {
            super(URI.create("string:///VeilOfStones.java"), Kind.SOURCE);
            this.text = text;
        }

        @Override
        public CharSequence getCharContent(boolean ignoreErrors) {
            return text;
        }
    }

    private void broken(int rule, Tree tree, String why) {
        long at = trees.getSourcePositions().getStartPosition(unit, tree);
        found.add("rule " + rule + ", line " + unit.getLineMap().getLineNumber(at) + ": " + why);
    }

    private void atTheEnd() {
        if (classes > 12) {
            found.add("rule 11: " + classes + " classes");
        }
        if (calls.size() < 100) {
            found.add("only " + calls.size() + " methods were found");
        }
        for (String name : calls.keySet()) {
            int depth = depth(name, new ArrayList<>());
            if (depth > 8) {
                found.add("rule 11: calls from " + name + " go " + depth + " deep");
            }
        }
    }

    /** How many calls stand open at once at most; the program has no recursion, so a circle is a finding. */
    private int depth(String name, List<String> open) {
        if (open.contains(name)) {
            found.add("rule 8: " + open + " comes back to " + name);
            return 0;
        }
        open.add(name);
        int deepest = 0;
        for (String called : calls.getOrDefault(name, Set.of())) {
            deepest = Math.max(deepest, depth(called, open));
        }
        open.remove(open.size() - 1);
        return deepest + 1;
    }

    @Override
    public Void scan(Tree tree, Void nothing) {
        if (tree != null && RULED_OUT.contains(tree.getKind())) {
            broken(6, tree, tree.getKind() + " is ruled out");
        }
        return super.scan(tree, nothing);
    }

    private TypeMirror type(Tree tree) {
        return trees.getTypeMirror(new TreePath(getCurrentPath(), tree));
    }

    private static String nameOf(Element element) {
        String name = element.getKind() == ElementKind.CONSTRUCTOR
            ? element.getEnclosingElement().getSimpleName().toString() : element.getSimpleName().toString();
        return element.getEnclosingElement() + "." + name;
    }

    @Override
    public Void visitClass(ClassTree tree, Void nothing) {
        classes++;
        boolean outermost = getCurrentPath().getParentPath().getLeaf() instanceof CompilationUnitTree;
        boolean member = getCurrentPath().getParentPath().getLeaf() instanceof ClassTree;
        if (!outermost && !(member && tree.getModifiers().getFlags().contains(Modifier.STATIC))) {
            broken(2, tree, tree.getSimpleName() + " is no static class of the class");
        }
        int fields = 0;
        for (Tree part : tree.getMembers()) {
            boolean own = part instanceof VariableTree field && !field.getModifiers().getFlags().contains(Modifier.STATIC);
            fields += own ? 1 : 0;
            if (part instanceof BlockTree) {
                broken(5, part, "a block of first values");
            }
        }
        if (fields > 20) {
            broken(11, tree, tree.getSimpleName() + " has " + fields + " fields");
        }
        return super.visitClass(tree, nothing);
    }

    @Override
    public Void visitMethod(MethodTree tree, Void nothing) {
        method = nameOf(trees.getElement(getCurrentPath()));
        calls.putIfAbsent(method, new LinkedHashSet<>());
        if (tree.getParameters().size() > 7) {
            broken(11, tree, method + " has " + tree.getParameters().size() + " parameters");
        }
        long lines = line(trees.getSourcePositions().getEndPosition(unit, tree))
            - line(trees.getSourcePositions().getStartPosition(unit, tree)) + 1;
        if (lines > 60) {
            broken(11, tree, method + " has " + lines + " lines");
        }
        if (tree.getReturnType() != null) {
            checkType(tree, type(tree.getReturnType()));
        }
        lookedAt.clear();
        used.clear();
        super.visitMethod(tree, nothing);
        used.removeAll(lookedAt);
        if (!used.isEmpty()) {
            broken(7, tree, method + " uses " + used + " as an index or a divisor and never looks at it");
        }
        method = FIRST_VALUES;
        return null;
    }

    private long line(long at) {
        return unit.getLineMap().getLineNumber(at);
    }

    private void checkType(Tree tree, TypeMirror type) {
        TypeMirror one = type instanceof ArrayType row ? row.getComponentType() : type;
        String name = one.toString();
        boolean fine = PLAIN.contains(one.getKind()) || name.startsWith("VeilOfStones")
            || type == one && (one.getKind() == TypeKind.VOID || name.equals("java.lang.String"));
        if (!fine) {
            broken(3, tree, "the type " + type);
        }
    }

    @Override
    public Void visitVariable(VariableTree tree, Void nothing) {
        checkType(tree, type(tree.getType()));
        VariableElement element = (VariableElement) trees.getElement(getCurrentPath());
        if (element.getModifiers().contains(Modifier.STATIC) && element.getConstantValue() == null) {
            broken(5, tree, tree.getName() + " is static and no constant");
        }
        return super.visitVariable(tree, nothing);
    }

    @Override
    public Void visitMethodInvocation(MethodInvocationTree tree, Void nothing) {
        Element called = trees.getElement(getCurrentPath());
        String name = nameOf(called);
        if (name.startsWith("VeilOfStones")) {
            noteCall(name);
            if (((ExecutableElement) called).getReturnType().getKind() == TypeKind.BOOLEAN) {
                // A method that answers whether something is there has looked at what it was given.
                tree.getArguments().forEach(argument -> lookedAt.addAll(variablesOf(argument)));
            }
        } else if (!LIBRARY.contains(name)) {
            broken(4, tree, "the library's " + name);
        }
        return super.visitMethodInvocation(tree, nothing);
    }

    private void noteCall(String called) {
        calls.computeIfAbsent(method, key -> new LinkedHashSet<>()).add(called);
    }

    /** Rule 12 lets a method make objects; this program's make none, so that no run can make too many. */
    private void checkNew(Tree tree) {
        boolean constructs = method.equals(FIRST_VALUES) || method.matches(".*\\b(\\w+)\\.\\1");
        if (!constructs) {
            broken(12, tree, method + " makes an object");
        }
    }

    @Override
    public Void visitNewClass(NewClassTree tree, Void nothing) {
        checkNew(tree);
        noteCall(nameOf(trees.getElement(getCurrentPath())));
        if (tree.getClassBody() != null) {
            broken(2, tree, "a class without a name");
        }
        return super.visitNewClass(tree, nothing);
    }

    @Override
    public Void visitNewArray(NewArrayTree tree, Void nothing) {
        checkNew(tree);
        return super.visitNewArray(tree, nothing);
    }

    @Override
    public Void visitTypeCast(TypeCastTree tree, Void nothing) {
        if (!PLAIN.contains(type(tree.getType()).getKind())) {
            broken(7, tree, "a cast to " + tree.getType());
        }
        return super.visitTypeCast(tree, nothing);
    }

    @Override
    public Void visitLiteral(LiteralTree tree, Void nothing) {
        String text = tree.getValue() instanceof String || tree.getValue() instanceof Character ? "" + tree.getValue() : "";
        if (text.chars().anyMatch(sign -> sign < 1 || sign > 127)) {
            broken(4, tree, "a text with a sign beyond 127");
        }
        return super.visitLiteral(tree, nothing);
    }

    @Override
    public Void visitArrayAccess(ArrayAccessTree tree, Void nothing) {
        used.addAll(variablesOf(tree.getIndex()));
        return super.visitArrayAccess(tree, nothing);
    }

    /** The names in an expression whose values are not known ahead of a run. */
    private Set<String> variablesOf(ExpressionTree expression) {
        Set<String> names = new LinkedHashSet<>();
        TreePath path = new TreePath(getCurrentPath(), expression);
        new TreePathScanner<Void, Void>() {
            @Override
            public Void visitIdentifier(IdentifierTree tree, Void nothing) {
                Element element = trees.getElement(getCurrentPath());
                if (element instanceof VariableElement variable && variable.getConstantValue() == null) {
                    names.add(tree.getName().toString());
                }
                return null;
            }
        }.scan(path, null);
        return names;
    }

    @Override
    public Void visitBinary(BinaryTree tree, Void nothing) {
        switch (tree.getKind()) {
            case DIVIDE, REMAINDER -> used.addAll(variablesOf(tree.getRightOperand()));
            case LESS_THAN, LESS_THAN_EQUAL, GREATER_THAN, GREATER_THAN_EQUAL, EQUAL_TO, NOT_EQUAL_TO -> {
                lookedAt.addAll(variablesOf(tree.getLeftOperand()));
                lookedAt.addAll(variablesOf(tree.getRightOperand()));
                if (type(tree.getLeftOperand()).toString().startsWith("java.lang.")) {
                    broken(6, tree, tree + " compares two texts");
                }
            }
            case PLUS -> {
                if (type(tree.getLeftOperand()).toString().equals("java.lang.String")
                    || type(tree.getRightOperand()).toString().equals("java.lang.String")) {
                    broken(10, tree, tree + " joins texts");
                }
            }
            default -> {
            }
        }
        return super.visitBinary(tree, nothing);
    }

    @Override
    public Void visitCompoundAssignment(CompoundAssignmentTree tree, Void nothing) {
        if (tree.getKind() == Tree.Kind.DIVIDE_ASSIGNMENT || tree.getKind() == Tree.Kind.REMAINDER_ASSIGNMENT) {
            used.addAll(variablesOf(tree.getExpression()));
        }
        if (type(tree.getVariable()).toString().equals("java.lang.String")) {
            broken(10, tree, tree + " joins texts");
        }
        return super.visitCompoundAssignment(tree, nothing);
    }

    /** A loop's own line has a comparison in it that can end it. */
    private void checkLoop(Tree loop, ExpressionTree condition) {
        boolean ends = condition != null && condition.toString().matches("(?s).*[^-]( < | <= | > | >= ).*");
        if (!ends) {
            broken(9, loop, "a loop whose end is not to be seen");
        }
    }

    @Override
    public Void visitForLoop(ForLoopTree tree, Void nothing) {
        checkLoop(tree, tree.getCondition());
        return super.visitForLoop(tree, nothing);
    }

    @Override
    public Void visitWhileLoop(WhileLoopTree tree, Void nothing) {
        checkLoop(tree, tree.getCondition());
        return super.visitWhileLoop(tree, nothing);
    }

    @Override
    public Void visitDoWhileLoop(DoWhileLoopTree tree, Void nothing) {
        checkLoop(tree, tree.getCondition());
        return super.visitDoWhileLoop(tree, nothing);
    }

    @Override
    public Void visitEnhancedForLoop(EnhancedForLoopTree tree, Void nothing) {
        checkType(tree, type(tree.getVariable().getType()));
        return super.visitEnhancedForLoop(tree, nothing);
    }
}
