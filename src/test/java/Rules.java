import com.sun.source.tree.AnnotationTree;
import com.sun.source.tree.ArrayTypeTree;
import com.sun.source.tree.AssertTree;
import com.sun.source.tree.AssignmentTree;
import com.sun.source.tree.BinaryTree;
import com.sun.source.tree.BlockTree;
import com.sun.source.tree.ClassTree;
import com.sun.source.tree.CompilationUnitTree;
import com.sun.source.tree.CompoundAssignmentTree;
import com.sun.source.tree.DoWhileLoopTree;
import com.sun.source.tree.EnhancedForLoopTree;
import com.sun.source.tree.ExpressionStatementTree;
import com.sun.source.tree.ExpressionTree;
import com.sun.source.tree.ForLoopTree;
import com.sun.source.tree.IdentifierTree;
import com.sun.source.tree.InstanceOfTree;
import com.sun.source.tree.LambdaExpressionTree;
import com.sun.source.tree.LiteralTree;
import com.sun.source.tree.MemberReferenceTree;
import com.sun.source.tree.MemberSelectTree;
import com.sun.source.tree.MethodInvocationTree;
import com.sun.source.tree.MethodTree;
import com.sun.source.tree.NewArrayTree;
import com.sun.source.tree.NewClassTree;
import com.sun.source.tree.ParenthesizedTree;
import com.sun.source.tree.PrimitiveTypeTree;
import com.sun.source.tree.SynchronizedTree;
import com.sun.source.tree.ThrowTree;
import com.sun.source.tree.Tree;
import com.sun.source.tree.Tree.Kind;
import com.sun.source.tree.TryTree;
import com.sun.source.tree.TypeCastTree;
import com.sun.source.tree.UnaryTree;
import com.sun.source.tree.VariableTree;
import com.sun.source.tree.WhileLoopTree;
import com.sun.source.util.JavacTask;
import com.sun.source.util.TreePath;
import com.sun.source.util.TreePathScanner;
import com.sun.source.util.TreeScanner;
import com.sun.source.util.Trees;
import java.io.IOException;
import java.net.URI;
import java.util.ArrayList;
import java.util.HashMap;
import java.util.HashSet;
import java.util.List;
import java.util.Map;
import java.util.Set;
import java.util.TreeMap;
import java.util.TreeSet;
import javax.lang.model.element.Element;
import javax.lang.model.element.ElementKind;
import javax.lang.model.element.Modifier;
import javax.lang.model.element.VariableElement;
import javax.lang.model.type.ArrayType;
import javax.lang.model.type.TypeKind;
import javax.lang.model.type.TypeMirror;
import javax.tools.DiagnosticCollector;
import javax.tools.JavaFileObject;
import javax.tools.SimpleJavaFileObject;
import javax.tools.ToolProvider;

/**
 * Finds breaches of LANGUAGE.md in a source, with javac's own parser. Where a rule speaks of what
 * can be seen (a loop's end) or of what can never happen (a divisor of 0), this takes a narrower
 * form that is surely inside the rule, the one that the class keeps to.
 */
final class Rules extends TreePathScanner<Void, Void> {
    private static final int MOST_PARAMETERS = 7;
    private static final int MOST_LINES = 60;
    private static final int DEEPEST = 6;
    private static final int MOST_FIELDS = 40;
    private static final Set<TypeKind> NUMBERS = Set.of(TypeKind.INT, TypeKind.LONG, TypeKind.SHORT,
            TypeKind.BYTE, TypeKind.CHAR, TypeKind.BOOLEAN);
    private static final Set<Kind> DIVISIONS = Set.of(Kind.DIVIDE, Kind.REMAINDER,
            Kind.DIVIDE_ASSIGNMENT, Kind.REMAINDER_ASSIGNMENT);

    private final Trees trees;
    private final CompilationUnitTree unit;
    private final String source;
    private final List<String> breaches = new ArrayList<>();
    private final Map<String, Set<String>> calls = new TreeMap<>();

    private Rules(Trees trees, CompilationUnitTree unit, String source) {
        this.trees = trees;
        this.unit = unit;
        this.source = source;
    }

    /** Each breach as "rule n: what"; a source that javac refuses is a breach of rule 0. */
    static List<String> breachesOf(String source) throws IOException {
        JavaFileObject file = new SimpleJavaFileObject(URI.create("string:///NetworkStates.java"),
                JavaFileObject.Kind.SOURCE) {
            @Override
            public CharSequence getCharContent(boolean ignoreEncodingErrors) {
                return source;
            }
        };
        DiagnosticCollector<JavaFileObject> refusals = new DiagnosticCollector<>();
        JavacTask task = (JavacTask) ToolProvider.getSystemJavaCompiler().getTask(null, null, refusals,
                List.of("--release", "17", "-proc:none"), null, List.of(file));
        CompilationUnitTree unit = task.parse().iterator().next();
        // Before javac has looked at names, since then it writes the call of super() into the tree.
        int written = new SuperCalls().count(unit);
        task.analyze();
        Rules rules = new Rules(Trees.instance(task), unit, source);
        if (!refusals.getDiagnostics().isEmpty()) {
            rules.breach(0, refusals.getDiagnostics().toString());
            return rules.breaches;
        }
        if (written > 0) {
            rules.breach(3, "a call of super");
        }
        rules.scan(unit, null);
        rules.callGraph();
        return rules.breaches;
    }

    private static final class SuperCalls extends TreeScanner<Void, Void> {
        private int found = 0;

        int count(Tree tree) {
            scan(tree, null);
            return found;
        }

        @Override
        public Void visitIdentifier(IdentifierTree name, Void none) {
            found += name.getName().contentEquals("super") ? 1 : 0;
            return null;
        }
    }

    private void breach(int rule, String what) {
        breaches.add("rule " + rule + ": " + what);
    }

    private void breachUnless(boolean kept, int rule, Object what) {
        if (!kept) {
            breach(rule, what.toString().strip());
        }
    }

    // Rule 1: one class with the document's face

    @Override
    public Void visitCompilationUnit(CompilationUnitTree whole, Void none) {
        breachUnless(whole.getPackage() == null, 1, "a package line");
        breachUnless(whole.getTypeDecls().size() == 1, 1, "not one class");
        breachUnless(whole.getImports().isEmpty(), 3, "an import");
        return super.visitCompilationUnit(whole, none);
    }

    @Override
    public Void visitClass(ClassTree type, Void none) {
        if (getCurrentPath().getParentPath().getLeaf() != unit) {
            breach(1, "a nested class " + type.getSimpleName());
            return null;
        }
        Set<Modifier> modifiers = type.getModifiers().getFlags();
        breachUnless(type.getKind() == Kind.CLASS, 1, "not a class");
        breachUnless(modifiers.equals(Set.of(Modifier.PUBLIC, Modifier.FINAL)), 1, "not public final");
        breachUnless(type.getExtendsClause() == null && type.getImplementsClause().isEmpty()
                && type.getTypeParameters().isEmpty(), 2, "another type in the class's head");
        members(type);
        return super.visitClass(type, none);
    }

    private void members(ClassTree type) {
        Set<String> publicNames = new HashSet<>();
        List<String> privateNames = new ArrayList<>();
        int fields = 0;
        for (Tree member : type.getMembers()) {
            if (member instanceof MethodTree method) {
                boolean hidden = method.getModifiers().getFlags().contains(Modifier.PRIVATE);
                (hidden ? privateNames : publicNames).add(method.getName().toString());
            } else if (member instanceof VariableTree field) {
                fields += field.getModifiers().getFlags().contains(Modifier.STATIC) ? 0 : 1;
            }
        }
        for (String name : privateNames) {
            breachUnless(!publicNames.contains(name), 1, "a private " + name + " beside a public one");
        }
        breachUnless(fields <= MOST_FIELDS, 10, fields + " fields");
    }

    @Override
    public Void visitBlock(BlockTree block, Void none) {
        if (getCurrentPath().getParentPath().getLeaf() instanceof ClassTree) {
            breach(block.isStatic() ? 5 : 4, "a block that is no method");
        }
        return super.visitBlock(block, none);
    }

    // Rule 2 and 3: numbers and arrays of numbers, and no other class

    @Override
    public Void visitVariable(VariableTree variable, Void none) {
        Element element = trees.getElement(getCurrentPath());
        breachUnless(isNumber(element.asType()) || isArray(element.asType()), 2, variable);
        breachUnless(!isVar(variable), 2, variable);
        if (element.getKind() == ElementKind.FIELD) {
            field(variable, (VariableElement) element);
        } else {
            breachUnless(!(variable.getInitializer() instanceof NewArrayTree), 4, variable);
        }
        return super.visitVariable(variable, none);
    }

    /** With var the type is not in the text, so its place is that of nothing. */
    private boolean isVar(VariableTree variable) {
        long start = trees.getSourcePositions().getStartPosition(unit, variable.getType());
        return start < 0 || source.startsWith("var ", (int) start);
    }

    private static boolean isNumber(TypeMirror type) {
        return NUMBERS.contains(type.getKind());
    }

    private static boolean isArray(TypeMirror type) {
        return type.getKind() == TypeKind.ARRAY && isNumber(((ArrayType) type).getComponentType());
    }

    @Override
    public Void scan(Tree tree, Void none) {
        if (tree instanceof ExpressionTree && getCurrentPath() != null) {
            typeOf(new TreePath(getCurrentPath(), tree), tree);
        }
        return super.scan(tree, none);
    }

    private void typeOf(TreePath path, Tree tree) {
        boolean ofThis = tree.toString().equals("this")
                && path.getParentPath().getLeaf() instanceof MemberSelectTree;
        if (isCallOfSuper(tree) || ofThis || tree instanceof AnnotationTree) {
            return;
        }
        TypeMirror type = trees.getTypeMirror(path);
        boolean kept = type == null || isNumber(type) || isArray(type)
                || type.getKind() == TypeKind.VOID || type.getKind() == TypeKind.EXECUTABLE;
        breachUnless(kept, 2, tree);
    }

    private static boolean isCallOfSuper(Tree tree) {
        Tree called = tree instanceof MethodInvocationTree call ? call.getMethodSelect() : tree;
        return called instanceof IdentifierTree name && name.getName().contentEquals("super");
    }

    @Override
    public Void visitIdentifier(IdentifierTree name, Void none) {
        if (!isCallOfSuper(name)) {
            belongsHere(name);
        }
        return super.visitIdentifier(name, none);
    }

    @Override
    public Void visitMemberSelect(MemberSelectTree select, Void none) {
        TypeMirror of = trees.getTypeMirror(new TreePath(getCurrentPath(), select.getExpression()));
        boolean length = isArray(of) && select.getIdentifier().contentEquals("length");
        if (!length) {
            belongsHere(select);
        }
        return super.visitMemberSelect(select, none);
    }

    private void belongsHere(Tree name) {
        Element element = trees.getElement(getCurrentPath());
        Element owner = element;
        while (owner != null && owner.getKind() != ElementKind.CLASS
                && owner.getKind() != ElementKind.INTERFACE) {
            owner = owner.getEnclosingElement();
        }
        breachUnless(owner != null && owner.toString().equals("NetworkStates"), 3, name);
    }

    @Override
    public Void visitAnnotation(AnnotationTree annotation, Void none) {
        breach(3, annotation.toString());
        return null;
    }

    @Override
    public Void visitPrimitiveType(PrimitiveTypeTree type, Void none) {
        breachUnless(type.getPrimitiveTypeKind() == TypeKind.VOID
                || NUMBERS.contains(type.getPrimitiveTypeKind()), 2, type);
        return super.visitPrimitiveType(type, none);
    }

    @Override
    public Void visitArrayType(ArrayTypeTree type, Void none) {
        breachUnless(type.getType() instanceof PrimitiveTypeTree, 2, type);
        return super.visitArrayType(type, none);
    }

    // Rule 4 and 5: arrays and static fields

    private void field(VariableTree tree, VariableElement field) {
        Set<Modifier> modifiers = field.getModifiers();
        breachUnless(modifiers.contains(Modifier.PRIVATE), 1, tree);
        if (modifiers.contains(Modifier.STATIC)) {
            TypeKind kind = field.asType().getKind();
            breachUnless(field.getConstantValue() != null
                    && (kind == TypeKind.INT || kind == TypeKind.LONG), 5, tree);
        } else if (isArray(field.asType())) {
            breachUnless(modifiers.contains(Modifier.FINAL) && tree.getInitializer() instanceof NewArrayTree,
                    4, tree);
        }
    }

    @Override
    public Void visitNewArray(NewArrayTree made, Void none) {
        boolean ofField = getCurrentPath().getParentPath().getLeaf() instanceof VariableTree variable
                && getCurrentPath().getParentPath().getParentPath().getLeaf() instanceof ClassTree
                && !variable.getModifiers().getFlags().contains(Modifier.STATIC);
        breachUnless(ofField && made.getInitializers() == null && made.getDimensions().size() == 1
                && constantOf(made.getDimensions().get(0)) >= 1, 4, made);
        return super.visitNewArray(made, none);
    }

    /** The value of a literal or a constant; 0, which is neither a length nor a divisor, if none. */
    private long constantOf(ExpressionTree tree) {
        Object value = null;
        if (tree instanceof LiteralTree literal) {
            value = literal.getValue();
        } else if (tree instanceof IdentifierTree) {
            Element element = trees.getElement(TreePath.getPath(unit, tree));
            value = element instanceof VariableElement variable ? variable.getConstantValue() : null;
        }
        return value instanceof Number number ? number.longValue() : 0;
    }

    @Override
    public Void visitNewClass(NewClassTree made, Void none) {
        breach(4, made.toString());
        return null;
    }

    @Override
    public Void visitAssignment(AssignmentTree assignment, Void none) {
        TypeMirror type = trees.getTypeMirror(new TreePath(getCurrentPath(), assignment.getVariable()));
        breachUnless(!isArray(type), 4, assignment);
        return super.visitAssignment(assignment, none);
    }

    @Override
    public Void visitBinary(BinaryTree binary, Void none) {
        TypeMirror left = trees.getTypeMirror(new TreePath(getCurrentPath(), binary.getLeftOperand()));
        breachUnless(!isArray(left), 4, binary);
        if (DIVISIONS.contains(binary.getKind())) {
            breachUnless(constantOf(binary.getRightOperand()) != 0, 7, binary);
        }
        return super.visitBinary(binary, none);
    }

    // Rule 6: what is ruled out by name

    @Override
    public Void visitThrow(ThrowTree tree, Void none) {
        breach(6, "throw");
        return null;
    }

    @Override
    public Void visitTry(TryTree tree, Void none) {
        breach(6, "try");
        return null;
    }

    @Override
    public Void visitSynchronized(SynchronizedTree tree, Void none) {
        breach(6, "synchronized");
        return null;
    }

    @Override
    public Void visitAssert(AssertTree tree, Void none) {
        breach(6, "assert");
        return null;
    }

    @Override
    public Void visitInstanceOf(InstanceOfTree tree, Void none) {
        breach(6, "instanceof");
        return null;
    }

    @Override
    public Void visitLambdaExpression(LambdaExpressionTree tree, Void none) {
        breach(6, "a lambda");
        return null;
    }

    @Override
    public Void visitMemberReference(MemberReferenceTree tree, Void none) {
        breach(6, "a method reference");
        return null;
    }

    @Override
    public Void visitTypeCast(TypeCastTree cast, Void none) {
        breachUnless(cast.getType() instanceof PrimitiveTypeTree, 6, cast);
        return super.visitTypeCast(cast, none);
    }

    // Rule 7: a divisor is a constant that is not 0 (an index cannot be judged from the text)

    @Override
    public Void visitCompoundAssignment(CompoundAssignmentTree assignment, Void none) {
        if (DIVISIONS.contains(assignment.getKind())) {
            breachUnless(constantOf(assignment.getExpression()) != 0, 7, assignment);
        }
        return super.visitCompoundAssignment(assignment, none);
    }

    // Rule 8: loops that count up to a bound, both of which the body leaves alone; no recursion

    @Override
    public Void visitWhileLoop(WhileLoopTree loop, Void none) {
        breach(8, "while (no counter)");
        return super.visitWhileLoop(loop, none);
    }

    @Override
    public Void visitDoWhileLoop(DoWhileLoopTree loop, Void none) {
        breach(8, "do while (no counter)");
        return super.visitDoWhileLoop(loop, none);
    }

    @Override
    public Void visitEnhancedForLoop(EnhancedForLoopTree loop, Void none) {
        breach(8, "for over an array (no counter)");
        return super.visitEnhancedForLoop(loop, none);
    }

    @Override
    public Void visitForLoop(ForLoopTree loop, Void none) {
        breachUnless(countsUp(loop), 8, loop);
        return super.visitForLoop(loop, none);
    }

    private static boolean countsUp(ForLoopTree loop) {
        if (loop.getInitializer().size() != 1 || loop.getUpdate().size() != 1
                || !(loop.getInitializer().get(0) instanceof VariableTree counter)
                || !(loop.getCondition() instanceof BinaryTree condition)) {
            return false;
        }
        ExpressionTree update = ((ExpressionStatementTree) loop.getUpdate().get(0)).getExpression();
        String name = counter.getName().toString();
        Names bound = new Names();
        bound.scan(condition.getRightOperand(), null);
        Names body = new Names();
        body.scan(loop.getStatement(), null);
        Set<String> left = new HashSet<>(bound.used);
        left.add(name);
        left.retainAll(body.changed);
        return condition.getKind() == Kind.LESS_THAN && condition.getLeftOperand().toString().equals(name)
                && update.toString().equals(name + "++") && !bound.used.contains(name)
                && !bound.calls && left.isEmpty();
    }

    private static final class Names extends TreeScanner<Void, Void> {
        private final Set<String> used = new HashSet<>();
        private final Set<String> changed = new HashSet<>();
        private boolean calls = false;

        @Override
        public Void visitIdentifier(IdentifierTree name, Void none) {
            used.add(name.getName().toString());
            return null;
        }

        @Override
        public Void visitMethodInvocation(MethodInvocationTree call, Void none) {
            calls = true;
            return super.visitMethodInvocation(call, none);
        }

        @Override
        public Void visitAssignment(AssignmentTree assignment, Void none) {
            changed.add(assignment.getVariable().toString());
            return super.visitAssignment(assignment, none);
        }

        @Override
        public Void visitCompoundAssignment(CompoundAssignmentTree assignment, Void none) {
            changed.add(assignment.getVariable().toString());
            return super.visitCompoundAssignment(assignment, none);
        }

        @Override
        public Void visitUnary(UnaryTree unary, Void none) {
            if (unary.getKind().name().endsWith("CREMENT")) {
                changed.add(unary.getExpression().toString());
            }
            return super.visitUnary(unary, none);
        }
    }

    /** Takes away methods that call none of those left; in six rounds none may be left. */
    private void callGraph() {
        Map<String, Set<String>> left = new HashMap<>(calls);
        for (int round = 0; round < DEEPEST; round++) {
            Set<String> before = new TreeSet<>(left.keySet());
            left.entrySet().removeIf(entry -> entry.getValue().stream().noneMatch(before::contains));
        }
        if (left.isEmpty()) {
            return;
        }
        int size = -1;
        while (size != left.size()) {
            size = left.size();
            Set<String> before = new TreeSet<>(left.keySet());
            left.entrySet().removeIf(entry -> entry.getValue().stream().noneMatch(before::contains));
        }
        breach(left.isEmpty() ? 10 : 8, left.isEmpty() ? "calls go too deep" : "recursion: " + left.keySet());
    }

    // Rule 10: short methods with few parameters, and no call in the arguments of another

    @Override
    public Void visitMethod(MethodTree method, Void none) {
        Set<Modifier> modifiers = method.getModifiers().getFlags();
        boolean face = modifiers.equals(Set.of(Modifier.PUBLIC));
        breachUnless(face || modifiers.contains(Modifier.PRIVATE), 1, "neither public nor private: " + method);
        breachUnless(!modifiers.contains(Modifier.SYNCHRONIZED), 6, "a synchronized method");
        breachUnless(!modifiers.contains(Modifier.NATIVE), 11, "a native method");
        breachUnless(method.getThrows().isEmpty(), 6, "throws");
        breachUnless(!(method.getReturnType() instanceof ArrayTypeTree), 4, "an array is answered: " + method);
        breachUnless(method.getParameters().size() <= MOST_PARAMETERS, 10, "parameters: " + method);
        breachUnless(linesOf(method) <= MOST_LINES, 10, "lines: " + method);
        calls.computeIfAbsent(method.getName().toString(), name -> new TreeSet<>());
        return super.visitMethod(method, none);
    }

    private long linesOf(MethodTree method) {
        long start = trees.getSourcePositions().getStartPosition(unit, method);
        long end = trees.getSourcePositions().getEndPosition(unit, method);
        // A constructor that javac added is not in the text.
        return end < 0 ? 0 : source.substring((int) start, (int) end).lines().count();
    }

    @Override
    public Void visitMethodInvocation(MethodInvocationTree call, Void none) {
        if (isCallOfSuper(call)) {
            return null;
        }
        for (ExpressionTree argument : call.getArguments()) {
            Names names = new Names();
            names.scan(argument, null);
            breachUnless(!names.calls, 10, "a call in the arguments: " + call);
        }
        called(call.getMethodSelect());
        return super.visitMethodInvocation(call, none);
    }

    /** Methods of one name count as one: that can only add to what is found. */
    private void called(ExpressionTree select) {
        ExpressionTree bare = select;
        while (bare instanceof ParenthesizedTree parentheses) {
            bare = parentheses.getExpression();
        }
        String name = bare instanceof MemberSelectTree member
                ? member.getIdentifier().toString() : bare.toString();
        TreePath path = getCurrentPath();
        while (path != null && !(path.getLeaf() instanceof MethodTree)) {
            path = path.getParentPath();
        }
        // A call in a field's initialiser is made by the constructor.
        String caller = path == null ? "<init>" : ((MethodTree) path.getLeaf()).getName().toString();
        calls.computeIfAbsent(caller, none -> new TreeSet<>()).add(name);
    }
}
