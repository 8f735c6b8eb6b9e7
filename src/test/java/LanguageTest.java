import com.sun.source.tree.ArrayAccessTree;
import com.sun.source.tree.BinaryTree;
import com.sun.source.tree.ClassTree;
import com.sun.source.tree.CompilationUnitTree;
import com.sun.source.tree.ExpressionTree;
import com.sun.source.tree.ForLoopTree;
import com.sun.source.tree.IdentifierTree;
import com.sun.source.tree.LineMap;
import com.sun.source.tree.MethodInvocationTree;
import com.sun.source.tree.MethodTree;
import com.sun.source.tree.NewArrayTree;
import com.sun.source.tree.NewClassTree;
import com.sun.source.tree.Tree;
import com.sun.source.tree.TypeCastTree;
import com.sun.source.tree.VariableTree;
import com.sun.source.tree.WhileLoopTree;
import com.sun.source.util.JavacTask;
import com.sun.source.util.TreePath;
import com.sun.source.util.TreePathScanner;
import com.sun.source.util.Trees;
import java.io.File;
import java.io.IOException;
import java.util.ArrayDeque;
import java.util.Deque;
import java.util.EnumSet;
import java.util.HashMap;
import java.util.LinkedHashMap;
import java.util.LinkedHashSet;
import java.util.List;
import java.util.Map;
import java.util.Set;
import javax.lang.model.element.Element;
import javax.lang.model.element.ElementKind;
import javax.lang.model.element.ExecutableElement;
import javax.lang.model.element.Modifier;
import javax.lang.model.element.TypeElement;
import javax.lang.model.element.VariableElement;
import javax.lang.model.type.TypeKind;
import javax.lang.model.type.TypeMirror;
import javax.lang.model.util.ElementFilter;
import javax.tools.JavaCompiler;
import javax.tools.StandardJavaFileManager;
import javax.tools.ToolProvider;

/**
 * The rules of LANGUAGE.md, read off the tree that the compiler makes of the class. The rules leave more than the
 * class uses; what it does not use is refused here too, so that whoever begins to use it looks at the rule first.
 */
public final class LanguageTest extends TreePathScanner<Void, Void> {
    private static final String SOURCE = "src/main/java/EnumerativeCoder.java";
    private static final int DEEPEST_CALLS = 8;

    private static final Set<String> LIBRARY = Set.of("java.lang.Math.min", "java.lang.Integer.compare",
        "java.lang.Long.compare", "java.lang.Object.<init>");
    private static final Set<String> TYPES = Set.of("int", "long", "boolean", "int[]", "long[]");

    /** What the class is made of; all other kinds of tree are refused, which settles rules 2, 6 and 13. */
    private static final Set<Tree.Kind> KINDS = EnumSet.of(
        Tree.Kind.COMPILATION_UNIT, Tree.Kind.CLASS, Tree.Kind.METHOD, Tree.Kind.VARIABLE, Tree.Kind.MODIFIERS,
        Tree.Kind.PRIMITIVE_TYPE, Tree.Kind.ARRAY_TYPE, Tree.Kind.IDENTIFIER, Tree.Kind.MEMBER_SELECT,
        Tree.Kind.BLOCK, Tree.Kind.RETURN, Tree.Kind.EXPRESSION_STATEMENT, Tree.Kind.IF, Tree.Kind.FOR_LOOP,
        Tree.Kind.WHILE_LOOP, Tree.Kind.SWITCH, Tree.Kind.CASE, Tree.Kind.BREAK, Tree.Kind.PARENTHESIZED,
        Tree.Kind.CONDITIONAL_EXPRESSION, Tree.Kind.METHOD_INVOCATION, Tree.Kind.NEW_CLASS, Tree.Kind.NEW_ARRAY,
        Tree.Kind.ARRAY_ACCESS, Tree.Kind.TYPE_CAST, Tree.Kind.ASSIGNMENT, Tree.Kind.INT_LITERAL,
        Tree.Kind.LONG_LITERAL, Tree.Kind.BOOLEAN_LITERAL, Tree.Kind.NULL_LITERAL, Tree.Kind.UNARY_MINUS,
        Tree.Kind.LOGICAL_COMPLEMENT, Tree.Kind.POSTFIX_INCREMENT, Tree.Kind.POSTFIX_DECREMENT, Tree.Kind.PLUS,
        Tree.Kind.MINUS, Tree.Kind.MULTIPLY, Tree.Kind.DIVIDE, Tree.Kind.REMAINDER, Tree.Kind.LEFT_SHIFT,
        Tree.Kind.RIGHT_SHIFT, Tree.Kind.UNSIGNED_RIGHT_SHIFT, Tree.Kind.AND, Tree.Kind.OR, Tree.Kind.XOR,
        Tree.Kind.CONDITIONAL_AND, Tree.Kind.CONDITIONAL_OR, Tree.Kind.EQUAL_TO, Tree.Kind.NOT_EQUAL_TO,
        Tree.Kind.LESS_THAN, Tree.Kind.LESS_THAN_EQUAL, Tree.Kind.GREATER_THAN, Tree.Kind.GREATER_THAN_EQUAL,
        Tree.Kind.PLUS_ASSIGNMENT, Tree.Kind.MINUS_ASSIGNMENT, Tree.Kind.MULTIPLY_ASSIGNMENT, Tree.Kind.OR_ASSIGNMENT);

    /** The only methods that may use an index or divide by a variable: they look at it first. */
    private static final Set<String> INDEX_USERS = Set.of("at", "set", "keep", "familyAt");
    private static final Set<String> DIVIDERS = Set.of("quotient", "remainder");

    private final JavacTask task;
    private final Trees trees;
    private final CompilationUnitTree unit;
    private final Set<TypeElement> classes = new LinkedHashSet<>();
    private final Map<ExecutableElement, Set<ExecutableElement>> calls = new LinkedHashMap<>();
    private final Map<ExecutableElement, Integer> depths = new HashMap<>();
    private final Deque<ExecutableElement> open = new ArrayDeque<>();

    private LanguageTest(JavacTask task, CompilationUnitTree unit) {
        this.task = task;
        this.trees = Trees.instance(task);
        this.unit = unit;
    }

    public static void main(String[] args) throws IOException {
        JavaCompiler compiler = ToolProvider.getSystemJavaCompiler();
        try (StandardJavaFileManager files = compiler.getStandardFileManager(null, null, null)) {
            File source = new File(args.length > 0 ? args[0] : SOURCE);
            JavacTask task = (JavacTask) compiler.getTask(null, files, null, List.of("-proc:none"), null,
                files.getJavaFileObjects(source));
            CompilationUnitTree unit = task.parse().iterator().next();
            task.analyze();
            LanguageTest test = new LanguageTest(task, unit);
            Tally.holds("rule 4: no import, no package", unit.getImports().isEmpty() && unit.getPackage() == null);
            Tally.same("rule 1: the number of classes of the file", unit.getTypeDecls().size(), 1);
            test.findClasses((TypeElement) test.elementOf(unit.getTypeDecls().get(0)));
            test.scan(unit, null);
            test.judgeClasses();
            test.judgeCalls();
        }
        Tally.end();
    }

    private void rule(String text, Tree tree, boolean kept) {
        if (!kept) {
            LineMap lines = unit.getLineMap();
            long start = trees.getSourcePositions().getStartPosition(unit, tree);
            Tally.holds("line " + lines.getLineNumber(start) + ": rule " + text, false);
        } else {
            Tally.holds("rule " + text, true);
        }
    }

    private Element elementOf(Tree tree) {
        return trees.getElement(trees.getPath(unit, tree));
    }

    private TypeMirror typeOf(Tree tree) {
        return trees.getTypeMirror(trees.getPath(unit, tree));
    }

    @Override
    public Void scan(Tree tree, Void nothing) {
        if (tree != null) {
            rule("6: " + tree.getKind() + " is not used", tree, KINDS.contains(tree.getKind()));
        }
        return super.scan(tree, nothing);
    }

    // ---- classes and what they hold

    private void findClasses(TypeElement outer) {
        classes.add(outer);
        for (TypeElement inside : ElementFilter.typesIn(outer.getEnclosedElements())) {
            findClasses(inside);
        }
    }

    @Override
    public Void visitClass(ClassTree tree, Void nothing) {
        Element element = trees.getElement(getCurrentPath());
        boolean outermost = element.getEnclosingElement().getKind() == ElementKind.PACKAGE;
        boolean fixed = element.getModifiers().contains(Modifier.STATIC);
        rule("2: a class inside is a static member", tree, classes.contains(element) && (outermost || fixed));
        for (Tree member : tree.getMembers()) {
            rule("5: no initialiser block", member, member.getKind() != Tree.Kind.BLOCK);
        }
        return super.visitClass(tree, nothing);
    }

    private void judgeClasses() {
        Tally.holds("rule 11: at most twelve classes", classes.size() <= 12);
        for (TypeElement one : classes) {
            int fields = 0;
            for (VariableElement field : ElementFilter.fieldsIn(one.getEnclosedElements())) {
                boolean fixed = field.getModifiers().contains(Modifier.STATIC);
                fields += fixed ? 0 : 1;
                boolean constant = field.getModifiers().contains(Modifier.FINAL) && field.getConstantValue() != null;
                Tally.holds("rule 5: static " + one + "." + field + " is a constant", !fixed || constant);
            }
            Tally.holds("rule 11: at most twenty fields in " + one, fields <= 20);
        }
    }

    @Override
    public Void visitVariable(VariableTree tree, Void nothing) {
        rule("3: the type of " + tree.getName(), tree, isAllowed(typeOf(tree)));
        return super.visitVariable(tree, nothing);
    }

    private boolean isAllowed(TypeMirror type) {
        if (type.getKind() == TypeKind.VOID || TYPES.contains(type.toString())) {
            return true;
        }
        String name = type.toString().replace("[]", "");
        boolean oneDimension = type.toString().length() - name.length() <= 2;
        return oneDimension && classes.stream().anyMatch(own -> own.getQualifiedName().contentEquals(name));
    }

    // ---- methods

    @Override
    public Void visitMethod(MethodTree tree, Void nothing) {
        ExecutableElement method = (ExecutableElement) elementOf(tree);
        calls.computeIfAbsent(method, unused -> new LinkedHashSet<>());
        rule("11: at most seven parameters of " + method, tree, method.getParameters().size() <= 7);
        rule("3: the type that " + method + " answers", tree, tree.getReturnType() == null || isAllowed(typeOf(tree.getReturnType())));
        rule("6: " + method + " declares no exception", tree, tree.getThrows().isEmpty());
        rule("11: at most sixty lines in " + method, tree, lineAtEnd(tree) - lineAtStart(tree) < 60);
        return super.visitMethod(tree, nothing);
    }

    private long lineAtStart(Tree tree) {
        return unit.getLineMap().getLineNumber(trees.getSourcePositions().getStartPosition(unit, tree));
    }

    private long lineAtEnd(Tree tree) {
        return unit.getLineMap().getLineNumber(trees.getSourcePositions().getEndPosition(unit, tree));
    }

    /** The method in which a tree stands; what stands in a field's initialiser is done by the constructors. */
    private List<ExecutableElement> callers() {
        for (TreePath path = getCurrentPath(); path != null; path = path.getParentPath()) {
            if (path.getLeaf() instanceof MethodTree) {
                return List.of((ExecutableElement) trees.getElement(path));
            }
            if (path.getLeaf() instanceof ClassTree) {
                return ElementFilter.constructorsIn(trees.getElement(path).getEnclosedElements());
            }
        }
        return List.of();
    }

    private boolean standsIn(Set<String> methods) {
        return callers().stream().anyMatch(method -> methods.contains(method.getSimpleName().toString()));
    }

    private boolean standsInLoop() {
        for (TreePath path = getCurrentPath(); !(path.getLeaf() instanceof ClassTree); path = path.getParentPath()) {
            if (path.getLeaf() instanceof ForLoopTree || path.getLeaf() instanceof WhileLoopTree) {
                return true;
            }
        }
        return false;
    }

    private void addCall(ExecutableElement called) {
        for (ExecutableElement caller : callers()) {
            calls.computeIfAbsent(caller, unused -> new LinkedHashSet<>()).add(called);
        }
    }

    @Override
    public Void visitMethodInvocation(MethodInvocationTree tree, Void nothing) {
        judgeCall(tree, (ExecutableElement) trees.getElement(getCurrentPath()));
        return super.visitMethodInvocation(tree, nothing);
    }

    @Override
    public Void visitNewClass(NewClassTree tree, Void nothing) {
        judgeCall(tree, (ExecutableElement) trees.getElement(getCurrentPath()));
        rule("12: no object is made in a loop", tree, !standsInLoop());
        return super.visitNewClass(tree, nothing);
    }

    private void judgeCall(Tree tree, ExecutableElement called) {
        TypeElement owner = (TypeElement) called.getEnclosingElement();
        String name = owner.getQualifiedName() + "." + called.getSimpleName();
        boolean own = owner.getQualifiedName().toString().startsWith("EnumerativeCoder");
        rule("4: " + name + " is allowed", tree, own || LIBRARY.contains(name));
        if (own) {
            addCall(called);
        }
    }

    // ---- what the machine could throw at

    @Override
    public Void visitArrayAccess(ArrayAccessTree tree, Void nothing) {
        rule("7: an index is used only where it is looked at", tree, standsIn(INDEX_USERS));
        return super.visitArrayAccess(tree, nothing);
    }

    @Override
    public Void visitBinary(BinaryTree tree, Void nothing) {
        Tree.Kind kind = tree.getKind();
        if (kind == Tree.Kind.DIVIDE || kind == Tree.Kind.REMAINDER) {
            rule("7: a divisor is looked at", tree, standsIn(DIVIDERS) || isPositiveNumber(tree.getRightOperand()));
        }
        if (kind == Tree.Kind.EQUAL_TO || kind == Tree.Kind.NOT_EQUAL_TO) {
            boolean withNull = tree.getRightOperand().getKind() == Tree.Kind.NULL_LITERAL;
            rule("6: only numbers are compared", tree, withNull || typeOf(tree.getLeftOperand()).getKind().isPrimitive());
        }
        return super.visitBinary(tree, nothing);
    }

    private static boolean isPositiveNumber(ExpressionTree tree) {
        return tree.getKind() == Tree.Kind.INT_LITERAL && !tree.toString().equals("0");
    }

    @Override
    public Void visitTypeCast(TypeCastTree tree, Void nothing) {
        rule("6: only numbers are cast", tree, typeOf(tree.getType()).getKind().isPrimitive());
        return super.visitTypeCast(tree, nothing);
    }

    @Override
    public Void visitNewArray(NewArrayTree tree, Void nothing) {
        rule("12: no array is made in a loop", tree, !standsInLoop());
        rule("7: an array has one length", tree, tree.getDimensions().size() == 1);
        for (ExpressionTree length : tree.getDimensions()) {
            new ConstantLength().scan(trees.getPath(unit, length), null);
        }
        for (ExecutableElement maker : callers()) {
            boolean once = maker.getKind() == ElementKind.CONSTRUCTOR || maker.getModifiers().contains(Modifier.STATIC);
            rule("12: arrays are made with the coder", tree, once);
        }
        return super.visitNewArray(tree, nothing);
    }

    /** A length is put together from constants alone. */
    private final class ConstantLength extends TreePathScanner<Void, Void> {
        @Override
        public Void visitIdentifier(IdentifierTree tree, Void nothing) {
            Element element = trees.getElement(getCurrentPath());
            boolean constant = element instanceof VariableElement && ((VariableElement) element).getConstantValue() != null;
            rule("7: a length is a constant", tree, constant);
            return null;
        }
    }

    // ---- loops

    @Override
    public Void visitForLoop(ForLoopTree tree, Void nothing) {
        rule("9: a loop has a counter, a bound and a step", tree,
            tree.getInitializer().size() == 1 && tree.getUpdate().size() == 1 && tree.getCondition() instanceof BinaryTree);
        return super.visitForLoop(tree, nothing);
    }

    @Override
    public Void visitWhileLoop(WhileLoopTree tree, Void nothing) {
        rule("9: a loop has a bound", tree, tree.getCondition().toString().matches("\\(\\w+ < \\w+ .*"));
        return super.visitWhileLoop(tree, nothing);
    }

    // ---- calls in calls

    private void judgeCalls() {
        int deepest = 0;
        for (ExecutableElement method : calls.keySet()) {
            deepest = Math.max(deepest, depthOf(method));
        }
        Tally.holds("rule 11: calls at most eight deep, not " + deepest, deepest <= DEEPEST_CALLS);
    }

    /** How many calls stand open at most in a method, its own one counted. */
    private int depthOf(ExecutableElement method) {
        if (open.contains(method)) {
            Tally.holds("rule 8: no recursion in " + method, false);
            return 0;
        }
        if (!depths.containsKey(method)) {
            open.push(method);
            int below = 0;
            for (ExecutableElement called : calls.getOrDefault(method, Set.of())) {
                for (ExecutableElement meant : allThatMayAnswer(called)) {
                    below = Math.max(below, depthOf(meant));
                }
            }
            open.pop();
            depths.put(method, below + 1);
        }
        return depths.get(method);
    }

    private Set<ExecutableElement> allThatMayAnswer(ExecutableElement called) {
        Set<ExecutableElement> found = new LinkedHashSet<>(Set.of(called));
        for (TypeElement one : classes) {
            for (ExecutableElement other : ElementFilter.methodsIn(one.getEnclosedElements())) {
                if (task.getElements().overrides(other, called, one)) {
                    found.add(other);
                }
            }
        }
        return found;
    }
}
