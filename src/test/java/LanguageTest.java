import com.sun.source.tree.ArrayAccessTree;
import com.sun.source.tree.AssignmentTree;
import com.sun.source.tree.BinaryTree;
import com.sun.source.tree.ClassTree;
import com.sun.source.tree.CompilationUnitTree;
import com.sun.source.tree.CompoundAssignmentTree;
import com.sun.source.tree.ExpressionTree;
import com.sun.source.tree.ForLoopTree;
import com.sun.source.tree.LiteralTree;
import com.sun.source.tree.MethodInvocationTree;
import com.sun.source.tree.MethodTree;
import com.sun.source.tree.NewArrayTree;
import com.sun.source.tree.NewClassTree;
import com.sun.source.tree.Tree;
import com.sun.source.tree.TypeCastTree;
import com.sun.source.tree.VariableTree;
import com.sun.source.tree.WhileLoopTree;
import com.sun.source.util.JavacTask;
import com.sun.source.util.SourcePositions;
import com.sun.source.util.TreePathScanner;
import com.sun.source.util.Trees;
import java.io.IOException;
import java.nio.file.Path;
import java.util.EnumSet;
import java.util.HashMap;
import java.util.HashSet;
import java.util.LinkedHashMap;
import java.util.List;
import java.util.Map;
import java.util.Set;
import java.util.TreeSet;
import java.util.regex.Matcher;
import java.util.regex.Pattern;
import javax.lang.model.element.Element;
import javax.lang.model.element.ElementKind;
import javax.lang.model.element.Modifier;
import javax.lang.model.type.TypeMirror;
import javax.tools.JavaCompiler;
import javax.tools.StandardJavaFileManager;
import javax.tools.ToolProvider;

/**
 * The rules of ../shared/LANGUAGE.md that show only in the parts of the source: javac reads it, so that a call is
 * known by what it calls and not by its name alone.
 */
public final class LanguageTest extends TreePathScanner<Void, Void> {
    private static final Path SOURCE = Path.of("src/main/java/BranchedSums.java");
    private static final Set<Tree.Kind> FORBIDDEN = EnumSet.of(Tree.Kind.THROW, Tree.Kind.TRY, Tree.Kind.CATCH,
        Tree.Kind.SYNCHRONIZED, Tree.Kind.ASSERT, Tree.Kind.LAMBDA_EXPRESSION, Tree.Kind.MEMBER_REFERENCE,
        Tree.Kind.BINDING_PATTERN, Tree.Kind.INSTANCE_OF, Tree.Kind.IMPORT, Tree.Kind.PACKAGE, Tree.Kind.ANNOTATION,
        Tree.Kind.DO_WHILE_LOOP, Tree.Kind.ENHANCED_FOR_LOOP);
    private static final Set<String> TYPES = Set.of("int", "long", "char", "boolean", "int[]", "long[]", "char[]");
    private static final Set<String> LIBRARY = Set.of("java.lang.Math.max", "java.lang.Math.min",
        "java.lang.Integer.bitCount", "java.lang.System.arraycopy");
    private static final int MOST_DEPTH = 8;
    private static final int MOST_FIELDS = 20;

    private final Due due = new Due();
    private final Trees trees;
    private final CompilationUnitTree unit;
    private final Map<Element, Set<Element>> calls = new LinkedHashMap<>();
    private final Map<Element, Integer> depths = new HashMap<>();
    private final Set<Element> entered = new HashSet<>();
    private final Set<String> recursions = new TreeSet<>();
    private int rowsRead;
    private int divisions;
    private int made;
    private int loops;

    private LanguageTest(Trees trees, CompilationUnitTree unit) {
        this.trees = trees;
        this.unit = unit;
    }

    public static void main(String[] args) throws IOException {
        JavaCompiler compiler = ToolProvider.getSystemJavaCompiler();
        try (StandardJavaFileManager files = compiler.getStandardFileManager(null, null, null)) {
            JavacTask task = (JavacTask) compiler.getTask(null, files, null, List.of("-proc:none"), null,
                files.getJavaFileObjects(SOURCE));
            CompilationUnitTree unit = task.parse().iterator().next();
            task.analyze();
            LanguageTest test = new LanguageTest(Trees.instance(task), unit);
            test.scan(unit, null);
            test.tellDepths();
            test.due.end();
        }
    }

    private void yes(String what, boolean holds) {
        due.is(what, holds ? 1 : 0, 1);
    }

    @Override
    public Void scan(Tree tree, Void none) {
        if (tree != null && FORBIDDEN.contains(tree.getKind())) {
            yes("no " + tree.getKind() + ": " + tree, false);
        }
        return super.scan(tree, none);
    }

    @Override
    public Void visitClass(ClassTree tree, Void none) {
        Element element = trees.getElement(getCurrentPath());
        yes(element + " stands in the file or in its one class", element.getEnclosingElement().getKind() == ElementKind.PACKAGE
            || element.getEnclosingElement().getEnclosingElement().getKind() == ElementKind.PACKAGE);
        int fields = 0;
        for (Tree member : tree.getMembers()) {
            if (member instanceof VariableTree field && !field.getModifiers().getFlags().contains(Modifier.STATIC)) {
                fields++;
            }
            yes(element + " has no static block", member.getKind() != Tree.Kind.BLOCK);
        }
        yes(element + " has some twenty fields at most, not " + fields, fields <= MOST_FIELDS);
        return super.visitClass(tree, none);
    }

    @Override
    public Void visitVariable(VariableTree tree, Void none) {
        Element element = trees.getElement(getCurrentPath());
        String type = element.asType().toString();
        yes(tree.getName() + " is of a type that is allowed: " + type, TYPES.contains(type) || isOwn(type));
        if (element.getKind() == ElementKind.FIELD && tree.getModifiers().getFlags().contains(Modifier.STATIC)) {
            boolean isFinal = tree.getModifiers().getFlags().contains(Modifier.FINAL);
            yes(tree.getName() + " is a static constant", isFinal && (type.equals("int") || type.equals("long")));
        }
        boolean mayBeNull = element.getKind() == ElementKind.FIELD && !element.asType().getKind().isPrimitive();
        boolean made = tree.getInitializer() instanceof NewClassTree || tree.getInitializer() instanceof NewArrayTree;
        yes(tree + " is never null", !mayBeNull || made && tree.getModifiers().getFlags().contains(Modifier.FINAL));
        return super.visitVariable(tree, none);
    }

    /** A method that may answer null says so by the word; its answer is held against null before it is used. */
    private void isHeldAgainstNull(Element called, Tree call) {
        if (!textOf(trees.getTree(called)).contains("null;")) return;
        boolean held = getCurrentPath().getParentPath().getLeaf() instanceof VariableTree variable
            && textOfMethod().contains("if (" + variable.getName() + " != null) {");
        yes(call + " is held against null", held);
    }

    @Override
    public Void visitLiteral(LiteralTree tree, Void none) {
        Tree.Kind around = getCurrentPath().getParentPath().getLeaf().getKind();
        boolean allowed = around == Tree.Kind.NOT_EQUAL_TO || around == Tree.Kind.CONDITIONAL_EXPRESSION;
        yes("null stands in a test or behind one, in " + textOfMethod(), tree.getKind() != Tree.Kind.NULL_LITERAL || allowed);
        return super.visitLiteral(tree, none);
    }

    private static boolean isOwn(String type) {
        return type.matches("BranchedSums(\\.\\w+(\\[\\])?)?");
    }

    @Override
    public Void visitMethodInvocation(MethodInvocationTree tree, Void none) {
        Element called = trees.getElement(getCurrentPath());
        String owner = called.getEnclosingElement().toString();
        if (isOwn(owner)) {
            Element caller = enclosing();
            if (!called.getSimpleName().contentEquals("<init>") && caller != null) {
                calls.computeIfAbsent(caller, key -> new HashSet<>()).add(called);
                isHeldAgainstNull(called, tree);
            }
        } else {
            String name = owner + "." + called.getSimpleName();
            boolean constructor = name.equals("java.lang.Object.<init>");
            yes(name + " is of the library that is allowed", constructor || LIBRARY.contains(name));
        }
        return super.visitMethodInvocation(tree, none);
    }

    /** The method in which we are, or null in a field's initialiser. */
    private Element enclosing() {
        for (var path = getCurrentPath(); path != null; path = path.getParentPath()) {
            if (path.getLeaf() instanceof MethodTree) return trees.getElement(path);
            if (path.getLeaf() instanceof ClassTree) return null;
        }
        return null;
    }

    private String textOfMethod() {
        for (var path = getCurrentPath(); path != null; path = path.getParentPath()) {
            if (path.getLeaf() instanceof MethodTree) return textOf(path.getLeaf());
        }
        return "";
    }

    private String textOf(Tree tree) {
        SourcePositions positions = trees.getSourcePositions();
        try {
            CharSequence source = unit.getSourceFile().getCharContent(true);
            int from = (int) positions.getStartPosition(unit, tree);
            return source.subSequence(from, (int) positions.getEndPosition(unit, tree)).toString();
        } catch (IOException failure) {
            throw new IllegalStateException(failure);
        }
    }

    /** An index is looked at before it is used: the same method compares it with the length of the same row. */
    @Override
    public Void visitArrayAccess(ArrayAccessTree tree, Void none) {
        rowsRead++;
        String row = textOf(tree.getExpression());
        String index = textOf(tree.getIndex());
        String method = textOfMethod();
        boolean ofNumbers = trees.getTypeMirror(getCurrentPath()).getKind().isPrimitive();
        yes(tree + ": a row of objects may hold null", ofNumbers || method.contains(": null;") || method.contains("= new "));
        yes(tree + ": the index is compared with the length", method.contains(index + " < " + row + ".length"));
        yes(tree + ": the index is compared with 0",
            method.contains(index + " >= 0") || method.contains("int " + index + " = 0"));
        return super.visitArrayAccess(tree, none);
    }

    @Override
    public Void visitBinary(BinaryTree tree, Void none) {
        if (tree.getKind() == Tree.Kind.DIVIDE || tree.getKind() == Tree.Kind.REMAINDER) {
            divisions++;
            String divisor = textOf(tree.getRightOperand());
            boolean constant = divisor.matches("[1-9]\\d*|[A-Z][A-Z_]+");
            yes(tree + ": the divisor is looked at", constant || textOfMethod().contains(divisor + " > 0"));
        }
        yes(tree + " joins no texts", !typeOf(tree.getLeftOperand()).equals("java.lang.String"));
        return super.visitBinary(tree, none);
    }

    private String typeOf(ExpressionTree tree) {
        TypeMirror type = trees.getTypeMirror(trees.getPath(unit, tree));
        return type == null ? "" : type.toString();
    }

    @Override
    public Void visitCompoundAssignment(CompoundAssignmentTree tree, Void none) {
        boolean divides = tree.getKind() == Tree.Kind.DIVIDE_ASSIGNMENT
            || tree.getKind() == Tree.Kind.REMAINDER_ASSIGNMENT;
        yes(tree + " does not divide", !divides);
        return super.visitCompoundAssignment(tree, none);
    }

    @Override
    public Void visitTypeCast(TypeCastTree tree, Void none) {
        yes(tree + " is a cast of numbers", Set.of("int", "long").contains(tree.getType().toString()));
        return super.visitTypeCast(tree, none);
    }

    /** Objects and rows are made with the object that holds them, never by a call. */
    private void isMadeWithTheObject(Tree tree) {
        made++;
        Element method = enclosing();
        yes(tree + " is made with the object", method == null || method.getKind() == ElementKind.CONSTRUCTOR);
    }

    @Override
    public Void visitNewClass(NewClassTree tree, Void none) {
        isMadeWithTheObject(tree);
        yes(tree + " has no body of its own", tree.getClassBody() == null);
        return super.visitNewClass(tree, none);
    }

    @Override
    public Void visitNewArray(NewArrayTree tree, Void none) {
        isMadeWithTheObject(tree);
        yes(tree + " has one dimension, of a constant length", tree.getDimensions().size() == 1
            && tree.getDimensions().get(0).toString().matches("MOST_[A-Z]+"));
        return super.visitNewArray(tree, none);
    }

    /** An assignment inside of a condition would hide what a loop's own line shows. */
    @Override
    public Void visitAssignment(AssignmentTree tree, Void none) {
        Tree parent = getCurrentPath().getParentPath().getLeaf();
        yes(tree + " stands by itself", parent.getKind() == Tree.Kind.EXPRESSION_STATEMENT);
        return super.visitAssignment(tree, none);
    }

    /** A counter that goes one on in the loop's own line, against a bound, and is not set back inside. */
    @Override
    public Void visitForLoop(ForLoopTree tree, Void none) {
        loops++;
        String step = tree.getUpdate().size() == 1 ? tree.getUpdate().get(0).toString() : "";
        String counter = step.matches("\\w+\\+\\+;") ? step.substring(0, step.length() - 3) : "?";
        yes(step + " counts up to a bound, in " + textOfMethod(), tree.getCondition() != null
            && tree.getCondition().toString().matches("(.*[ (])?" + counter + " <=? \\w+(\\.\\w+)*\\b.*"));
        yes(counter + " is counted in the loop's line alone, in " + textOfMethod(),
            !textOf(tree.getStatement()).matches("(?s).*\\b" + counter + "( [-+*|&]?= |\\+\\+|--).*"));
        return super.visitForLoop(tree, none);
    }

    /** A counter of the condition goes on in each round. */
    @Override
    public Void visitWhileLoop(WhileLoopTree tree, Void none) {
        loops++;
        Matcher counter = Pattern.compile("(\\w+) [<>] \\w+").matcher(tree.getCondition().toString());
        String body = textOf(tree.getStatement());
        yes("the while has a counter, in " + textOfMethod(), counter.find()
            && (body.contains(counter.group(1) + "++;") || body.contains(counter.group(1) + "--;")));
        return super.visitWhileLoop(tree, none);
    }

    private void tellDepths() {
        int most = 0;
        for (Element method : Set.copyOf(calls.keySet())) {
            int depth = depthOf(method);
            yes(method + " goes at most eight calls deep, not " + depth, depth <= MOST_DEPTH);
            most = Math.max(most, depth);
        }
        yes("the only recursion is bestFrom, not " + recursions, recursions.equals(Set.of("bestFrom")));
        yes("the source was read", most > 2 && rowsRead > 10 && divisions > 2 && made > 10 && loops > 15);
    }

    /** How many calls stand open at most, with the method's own; a recursion's own calls are left out. */
    private int depthOf(Element method) {
        if (depths.containsKey(method)) return depths.get(method);
        if (!entered.add(method)) {
            recursions.add(method.getSimpleName().toString());
            return 0;
        }
        int below = 0;
        for (Element called : calls.getOrDefault(method, Set.of())) {
            below = Math.max(below, depthOf(called));
        }
        entered.remove(method);
        depths.put(method, below + 1);
        return below + 1;
    }
}
