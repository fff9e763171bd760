import com.sun.source.tree.*;
import com.sun.source.util.JavacTask;
import com.sun.source.util.SourcePositions;
import com.sun.source.util.TreePath;
import com.sun.source.util.TreePathScanner;
import com.sun.source.util.Trees;
import java.io.IOException;
import java.net.URI;
import java.util.ArrayList;
import java.util.HashSet;
import java.util.LinkedHashMap;
import java.util.LinkedHashSet;
import java.util.List;
import java.util.Map;
import java.util.Set;
import javax.lang.model.element.Element;
import javax.lang.model.element.ElementKind;
import javax.lang.model.element.ExecutableElement;
import javax.lang.model.element.Modifier;
import javax.lang.model.element.NestingKind;
import javax.lang.model.element.TypeElement;
import javax.lang.model.element.VariableElement;
import javax.lang.model.type.ArrayType;
import javax.lang.model.type.DeclaredType;
import javax.lang.model.type.TypeKind;
import javax.lang.model.type.TypeMirror;
import javax.tools.Diagnostic;
import javax.tools.DiagnosticCollector;
import javax.tools.JavaFileObject;
import javax.tools.SimpleJavaFileObject;
import javax.tools.ToolProvider;

/**
 * Looks at a source of QuotientQuoin for what ../shared/LANGUAGE.md leaves out. Where the page
 * leaves more than the class needs (recursion, own classes in catches, objects made by methods,
 * divisors and lengths that are no constants), the narrower way is looked for, since that can be
 * seen from the source. The face itself (rule 1) is looked at by FaceTest.
 */
final class Rules extends TreePathScanner<Void, Void> {
    private static final String CLASS = "QuotientQuoin";
    private static final int MOST_DEEP = 8;
    private static final int MOST_LINES = 60;
    private static final int MOST_PARAMETERS = 7;
    private static final int MOST_CLASSES = 12;
    private static final int MOST_FIELDS = 20;

    private static final Set<String> EXCEPTIONS = Set.of("java.lang.IllegalStateException",
            "java.lang.IllegalArgumentException", "java.lang.IndexOutOfBoundsException",
            "java.lang.ArithmeticException", "java.lang.UnsupportedOperationException",
            "java.util.NoSuchElementException", "java.lang.RuntimeException");

    private static final Set<String> TYPES = Set.of("java.lang.String", "java.lang.StringBuilder",
            "java.lang.Integer", "java.util.ArrayList", "java.util.List", "java.util.Iterator",
            "java.lang.Iterable", "java.lang.Comparable");

    // Static functions of these over int and long are allowed, but for the ones ending in Exact.
    private static final Set<String> NUMBERS =
            Set.of("java.lang.Integer", "java.lang.Long", "java.lang.Math");

    private static final Map<String, Set<String>> LIBRARY = Map.of(
            "java.lang.String", Set.of("length()", "charAt(int)", "isEmpty()",
                    "equals(java.lang.Object)", "indexOf(int)", "substring(int)",
                    "substring(int,int)", "toCharArray()", "String(char[])"),
            "java.lang.StringBuilder", Set.of("StringBuilder()", "append(char)",
                    "append(java.lang.String)", "append(int)", "charAt(int)", "setCharAt(int,char)",
                    "setLength(int)", "deleteCharAt(int)", "reverse()", "length()", "toString()"),
            "java.util.ArrayList", Set.of("ArrayList()", "add(E)", "add(int,E)", "get(int)",
                    "set(int,E)", "remove(int)", "size()", "isEmpty()", "clear()"),
            "java.util.List", Set.of("add(E)", "add(int,E)", "get(int)", "set(int,E)", "remove(int)",
                    "size()", "isEmpty()", "clear()", "of()", "of(E)", "of(E,E)", "of(E,E,E)",
                    "of(E,E,E,E)", "of(E,E,E,E,E)", "of(E,E,E,E,E,E)"),
            "java.lang.System",
            Set.of("arraycopy(java.lang.Object,int,java.lang.Object,int,int)"));

    private static final Set<String> ARRAYS = Set.of("copyOf", "copyOfRange", "fill");
    private static final Set<String> OF_ARRAY = Set.of("length", "clone()");

    private final CompilationUnitTree unit;
    private final Trees trees;
    private final SourcePositions positions;
    private final List<String> findings = new ArrayList<>();
    private final Map<ExecutableElement, Set<ExecutableElement>> calls = new LinkedHashMap<>();
    private final Set<Tree> thrown = new HashSet<>();
    private MethodTree method = null;
    private ExecutableElement methodElement = null;
    private int classes = 0;

    private Rules(CompilationUnitTree unit, Trees trees) {
        this.unit = unit;
        this.trees = trees;
        positions = trees.getSourcePositions();
    }

    /** What the source breaks, each as "rule N: line L: ..."; nothing if it keeps to the rules. */
    static List<String> findings(String source) throws IOException {
        JavaFileObject file = new SimpleJavaFileObject(URI.create("string:///" + CLASS + ".java"),
                JavaFileObject.Kind.SOURCE) {
            @Override
            public CharSequence getCharContent(boolean ignoreErrors) {
                return source;
            }
        };
        DiagnosticCollector<JavaFileObject> said = new DiagnosticCollector<>();
        JavacTask task = (JavacTask) ToolProvider.getSystemJavaCompiler().getTask(null, null, said,
                List.of("--release", "17", "-proc:none"), null, List.of(file));
        CompilationUnitTree unit = task.parse().iterator().next();
        task.analyze();
        for (Diagnostic<?> one : said.getDiagnostics()) {
            if (one.getKind() == Diagnostic.Kind.ERROR) {
                throw new IllegalArgumentException("does not compile: " + one);
            }
        }
        Rules rules = new Rules(unit, Trees.instance(task));
        rules.lookAtFile(source);
        return rules.findings;
    }

    // ---- the whole file

    private void lookAtFile(String source) {
        breaks(1, unit, unit.getPackageName() != null, "a package line");
        for (int i = 0; i < source.length(); i++) {
            breaks(4, unit, source.charAt(i) > 126, "the sign " + (int) source.charAt(i));
        }
        scan(unit, null);
        breaks(11, unit, classes > MOST_CLASSES, classes + " classes");
        for (ExecutableElement start : calls.keySet()) {
            int depth = depthFrom(start, new LinkedHashSet<>());
            breaks(11, unit, depth > MOST_DEEP, start + " goes " + depth + " calls deep");
        }
    }

    private int depthFrom(ExecutableElement start, Set<ExecutableElement> open) {
        if (!open.add(start)) {
            breaks(8, unit, true, "recursion: " + open);
            return 0;
        }
        int deepest = 0;
        for (ExecutableElement called : calls.getOrDefault(start, Set.of())) {
            deepest = Math.max(deepest, depthFrom(called, open));
        }
        open.remove(start);
        return deepest + 1;
    }

    // ---- classes, methods, variables

    @Override
    public Void visitClass(ClassTree tree, Void unused) {
        classes++;
        TypeElement type = (TypeElement) elementOf(tree);
        breaks(1, tree, type.getNestingKind() == NestingKind.TOP_LEVEL
                && !type.getModifiers().containsAll(Set.of(Modifier.PUBLIC, Modifier.FINAL)), "not public and final");
        breaks(2, tree, type.getNestingKind() == NestingKind.LOCAL, "a local class");
        breaks(2, tree, type.getNestingKind() == NestingKind.MEMBER
                && !type.getModifiers().contains(Modifier.STATIC), "an inner class");
        int fields = 0;
        for (Tree member : tree.getMembers()) {
            breaks(5, member, member instanceof BlockTree && ((BlockTree) member).isStatic(), "a static block");
            fields += member instanceof VariableTree && !isConstant((VariableTree) member) ? 1 : 0;
        }
        breaks(11, tree, fields > MOST_FIELDS, fields + " fields");
        MethodTree outer = method;
        ExecutableElement outerElement = methodElement;
        super.visitClass(tree, unused);
        method = outer;
        methodElement = outerElement;
        return null;
    }

    private static boolean isConstant(VariableTree field) {
        return field.getModifiers().getFlags().containsAll(Set.of(Modifier.STATIC, Modifier.FINAL));
    }

    @Override
    public Void visitMethod(MethodTree tree, Void unused) {
        method = tree;
        methodElement = (ExecutableElement) elementOf(tree);
        calls.computeIfAbsent(methodElement, m -> new LinkedHashSet<>());
        Set<String> named = Set.of("equals", "hashCode", "toString", "finalize");
        breaks(6, tree, named.contains(tree.getName().toString()), "a method " + tree.getName());
        breaks(11, tree, tree.getParameters().size() > MOST_PARAMETERS, "too many parameters");
        breaks(11, tree, lines(tree) > MOST_LINES, lines(tree) + " lines");
        breaks(13, tree, methodElement.getModifiers().contains(Modifier.NATIVE), "a native method");
        typeAllowed(tree, methodElement.getReturnType());
        super.visitMethod(tree, unused);
        method = null;
        methodElement = null;
        return null;
    }

    private long lines(Tree tree) {
        return unit.getLineMap().getLineNumber(positions.getEndPosition(unit, tree)) - lineOf(tree) + 1;
    }

    @Override
    public Void visitVariable(VariableTree tree, Void unused) {
        VariableElement variable = (VariableElement) elementOf(tree);
        boolean caught = variable.getKind() == ElementKind.EXCEPTION_PARAMETER;
        if (!caught) {
            typeAllowed(tree, variable.asType());
        }
        if (variable.getKind() == ElementKind.FIELD && variable.getModifiers().contains(Modifier.STATIC)) {
            staticAllowed(tree, variable);
        }
        return super.visitVariable(tree, unused);
    }

    private void staticAllowed(VariableTree tree, VariableElement variable) {
        breaks(5, tree, !variable.getModifiers().contains(Modifier.FINAL), "static and not final");
        boolean writtenOut = tree.getInitializer() instanceof NewArrayTree
                && ((NewArrayTree) tree.getInitializer()).getInitializers() != null
                && Set.of("int[]", "long[]", "char[]", "byte[]").contains(variable.asType().toString());
        breaks(5, tree, variable.getConstantValue() == null && !writtenOut, "no constant");
    }

    private void typeAllowed(Tree tree, TypeMirror type) {
        boolean allowed = type.getKind() == TypeKind.VOID || isAllowed(type, 0);
        breaks(3, tree, !allowed, "the type " + type);
    }

    private boolean isAllowed(TypeMirror type, int dimensions) {
        if (type.getKind().isPrimitive()) {
            return dimensions <= 2;
        }
        if (type.getKind() == TypeKind.ARRAY) {
            return isAllowed(((ArrayType) type).getComponentType(), dimensions + 1);
        }
        if (type.getKind() == TypeKind.TYPEVAR) {
            return dimensions == 0;
        }
        if (type.getKind() != TypeKind.DECLARED || dimensions > 1) {
            return false;
        }
        Element declared = ((DeclaredType) type).asElement();
        return isOwn(declared) || (dimensions == 0 && TYPES.contains(nameOf(declared))
                && ((DeclaredType) type).getTypeArguments().stream().allMatch(this::isInList));
    }

    private boolean isInList(TypeMirror type) {
        return type.getKind() == TypeKind.TYPEVAR || type.toString().equals("java.lang.Integer")
                || (type.getKind() == TypeKind.DECLARED && isOwn(((DeclaredType) type).asElement()));
    }

    // ---- the library

    @Override
    public Void visitIdentifier(IdentifierTree tree, Void unused) {
        // Every constructor names the one of Object by "super", written or not.
        if (!tree.getName().contentEquals("super")) {
            nameAllowed(tree, elementOf(tree));
        }
        return super.visitIdentifier(tree, unused);
    }

    @Override
    public Void visitMemberSelect(MemberSelectTree tree, Void unused) {
        Element element = elementOf(tree);
        nameAllowed(tree, element);
        breaks(6, tree, element instanceof ExecutableElement && isCaught(tree.getExpression()),
                "asks a caught exception");
        return super.visitMemberSelect(tree, unused);
    }

    private void nameAllowed(Tree tree, Element element) {
        if (element == null || isOwn(element) || element.getKind() == ElementKind.PACKAGE) {
            return;
        }
        if (element instanceof TypeElement) {
            Set<String> more = Set.of("java.lang.Long", "java.lang.Math", "java.lang.System",
                    "java.util.Arrays", "java.lang.Override");
            String name = nameOf(element);
            breaks(4, tree, !TYPES.contains(name) && !EXCEPTIONS.contains(name) && !more.contains(name), name);
        } else if (element.getKind() != ElementKind.TYPE_PARAMETER) {
            breaks(4, tree, !isInLibrary(element), element.getEnclosingElement() + "." + element);
        }
    }

    private boolean isInLibrary(Element element) {
        String owner = nameOf(element.getEnclosingElement());
        String name = element.getSimpleName().toString();
        if (owner.equals("Array")) {
            return OF_ARRAY.contains(element.toString());
        }
        if (!(element instanceof ExecutableElement)) {
            return false;
        }
        if (NUMBERS.contains(owner)) {
            return element.getModifiers().contains(Modifier.STATIC) && !name.endsWith("Exact")
                    && ((ExecutableElement) element).getParameters().stream().allMatch(p ->
                            Set.of("int", "long").contains(p.asType().toString()));
        }
        if (owner.equals("java.util.Arrays")) {
            return ARRAYS.contains(name) && !element.toString().contains("Object")
                    && !element.toString().contains("T[]");
        }
        if (EXCEPTIONS.contains(owner)) {
            return element.getKind() == ElementKind.CONSTRUCTOR;
        }
        String signature = element.toString().replaceFirst("^<[^>]*>", "");
        return LIBRARY.getOrDefault(owner, Set.of()).contains(signature);
    }

    // ---- exceptions

    @Override
    public Void visitThrow(ThrowTree tree, Void unused) {
        breaks(6, tree, method == null || method.getName().contentEquals("<init>"), "a throw in a constructor");
        if (tree.getExpression() instanceof NewClassTree) {
            NewClassTree made = (NewClassTree) tree.getExpression();
            thrown.add(made);
            String type = nameOf(elementOf(made).getEnclosingElement());
            breaks(6, tree, !EXCEPTIONS.contains(type), "throws " + type);
            boolean written = made.getArguments().isEmpty() || (made.getArguments().size() == 1
                    && made.getArguments().get(0).getKind() == Tree.Kind.STRING_LITERAL);
            breaks(6, tree, !written, "not new E() or new E(\"a written text\")");
        } else {
            breaks(6, tree, true, "not new E() or new E(\"a written text\")");
        }
        return super.visitThrow(tree, unused);
    }

    @Override
    public Void visitTry(TryTree tree, Void unused) {
        breaks(6, tree, tree.getFinallyBlock() != null, "finally");
        breaks(6, tree, !tree.getResources().isEmpty(), "a try with resources");
        boolean[] throwsHere = {false};
        new TreePathScanner<Void, Void>() {
            @Override
            public Void visitThrow(ThrowTree inside, Void none) {
                throwsHere[0] = true;
                return null;
            }
        }.scan(new TreePath(new TreePath(unit), method), null);
        breaks(6, tree, throwsHere[0], "a catch in the method that holds a throw");
        return super.visitTry(tree, unused);
    }

    @Override
    public Void visitCatch(CatchTree tree, Void unused) {
        Tree type = tree.getParameter().getType();
        List<? extends Tree> types = type instanceof UnionTypeTree
                ? ((UnionTypeTree) type).getTypeAlternatives() : List.of(type);
        for (Tree one : types) {
            String name = trees.getTypeMirror(trees.getPath(unit, one)).toString();
            breaks(6, one, !EXCEPTIONS.contains(name), "catches " + name);
            breaks(7, one, name.equals("java.lang.RuntimeException") || name.equals("java.lang.ArithmeticException")
                    || name.equals("java.lang.IndexOutOfBoundsException"), "may catch what the machine throws");
        }
        return super.visitCatch(tree, unused);
    }

    private boolean isCaught(ExpressionTree tree) {
        Element element = trees.getElement(trees.getPath(unit, tree));
        return element != null && element.getKind() == ElementKind.EXCEPTION_PARAMETER;
    }

    @Override
    public Void visitAssert(AssertTree tree, Void unused) {
        breaks(6, tree, true, "assert");
        return super.visitAssert(tree, unused);
    }

    @Override
    public Void visitSynchronized(SynchronizedTree tree, Void unused) {
        breaks(6, tree, true, "synchronized");
        return super.visitSynchronized(tree, unused);
    }

    // ---- what may throw by itself

    @Override
    public Void visitBinary(BinaryTree tree, Void unused) {
        boolean divides = tree.getKind() == Tree.Kind.DIVIDE || tree.getKind() == Tree.Kind.REMAINDER;
        breaks(7, tree, divides && !isNonZero(tree.getRightOperand()), "a divisor that is no constant");
        TypeMirror left = typeOf(tree.getLeftOperand());
        TypeMirror right = typeOf(tree.getRightOperand());
        boolean compares = tree.getKind() == Tree.Kind.EQUAL_TO || tree.getKind() == Tree.Kind.NOT_EQUAL_TO;
        Set<String> values = Set.of("java.lang.String", "java.lang.Integer");
        breaks(6, tree, compares && values.contains(left.toString()) && values.contains(right.toString()),
                "== between two " + left);
        breaks(10, tree, tree.getKind() == Tree.Kind.PLUS && (isText(left) || isText(right)), "texts joined by +");
        return super.visitBinary(tree, unused);
    }

    @Override
    public Void visitCompoundAssignment(CompoundAssignmentTree tree, Void unused) {
        boolean divides = tree.getKind() == Tree.Kind.DIVIDE_ASSIGNMENT
                || tree.getKind() == Tree.Kind.REMAINDER_ASSIGNMENT;
        breaks(7, tree, divides && !isNonZero(tree.getExpression()), "a divisor that is no constant");
        breaks(10, tree, isText(typeOf(tree.getVariable())), "texts joined by +");
        neverChanged(tree, tree.getVariable());
        return super.visitCompoundAssignment(tree, unused);
    }

    @Override
    public Void visitAssignment(AssignmentTree tree, Void unused) {
        neverChanged(tree, tree.getVariable());
        return super.visitAssignment(tree, unused);
    }

    @Override
    public Void visitUnary(UnaryTree tree, Void unused) {
        boolean steps = Set.of(Tree.Kind.POSTFIX_INCREMENT, Tree.Kind.POSTFIX_DECREMENT,
                Tree.Kind.PREFIX_INCREMENT, Tree.Kind.PREFIX_DECREMENT).contains(tree.getKind());
        if (steps) {
            neverChanged(tree, tree.getExpression());
        }
        return super.visitUnary(tree, unused);
    }

    private void neverChanged(Tree tree, ExpressionTree changed) {
        if (changed instanceof ArrayAccessTree) {
            Element array = trees.getElement(trees.getPath(unit, ((ArrayAccessTree) changed).getExpression()));
            breaks(5, tree, array != null && array.getModifiers().contains(Modifier.STATIC), "a static row is changed");
        }
    }

    @Override
    public Void visitTypeCast(TypeCastTree tree, Void unused) {
        breaks(7, tree, !typeOf(tree).getKind().isPrimitive(), "a cast between classes");
        return super.visitTypeCast(tree, unused);
    }

    @Override
    public Void visitNewArray(NewArrayTree tree, Void unused) {
        for (ExpressionTree length : tree.getDimensions()) {
            breaks(7, tree, !isNonZero(length), "a length that is no constant");
        }
        breaks(12, tree, method != null && !method.getName().contentEquals("<init>"), "a method makes an array");
        return super.visitNewArray(tree, unused);
    }

    @Override
    public Void visitNewClass(NewClassTree tree, Void unused) {
        nameAllowed(tree, elementOf(tree));
        callsTo(elementOf(tree));
        breaks(12, tree, method != null && !method.getName().contentEquals("<init>")
                && !thrown.contains(tree), "a method makes an object");
        return super.visitNewClass(tree, unused);
    }

    @Override
    public Void visitMethodInvocation(MethodInvocationTree tree, Void unused) {
        callsTo(elementOf(tree));
        return super.visitMethodInvocation(tree, unused);
    }

    private void callsTo(Element called) {
        if (methodElement != null && called instanceof ExecutableElement && isOwn(called)) {
            calls.get(methodElement).add((ExecutableElement) called);
        }
    }

    // Only a constant of the source can be seen not to be 0.
    private boolean isNonZero(ExpressionTree tree) {
        Long value = constant(tree);
        return value != null && value > 0;
    }

    private Long constant(ExpressionTree tree) {
        if (tree instanceof ParenthesizedTree) {
            return constant(((ParenthesizedTree) tree).getExpression());
        }
        if (tree instanceof LiteralTree && ((LiteralTree) tree).getValue() instanceof Number) {
            return ((Number) ((LiteralTree) tree).getValue()).longValue();
        }
        if (tree.getKind() == Tree.Kind.MULTIPLY) {
            Long left = constant(((BinaryTree) tree).getLeftOperand());
            Long right = constant(((BinaryTree) tree).getRightOperand());
            return left == null || right == null ? null : Long.valueOf(left * right);
        }
        Element element = trees.getElement(trees.getPath(unit, tree));
        Object value = element instanceof VariableElement ? ((VariableElement) element).getConstantValue() : null;
        return value instanceof Number ? Long.valueOf(((Number) value).longValue()) : null;
    }

    // ---- loops and other statements

    @Override
    public Void visitForLoop(ForLoopTree tree, Void unused) {
        loopEnds(tree, tree.getCondition(), tree.getUpdate(), tree.getStatement());
        return super.visitForLoop(tree, unused);
    }

    @Override
    public Void visitWhileLoop(WhileLoopTree tree, Void unused) {
        loopEnds(tree, tree.getCondition(), List.of(), tree.getStatement());
        return super.visitWhileLoop(tree, unused);
    }

    @Override
    public Void visitDoWhileLoop(DoWhileLoopTree tree, Void unused) {
        loopEnds(tree, tree.getCondition(), List.of(), tree.getStatement());
        return super.visitDoWhileLoop(tree, unused);
    }

    // One part of the condition compares a variable that each round moves one way, and that
    // nothing else in the loop sets.
    private void loopEnds(Tree loop, ExpressionTree condition, List<? extends StatementTree> update,
            StatementTree body) {
        List<StatementTree> steps = new ArrayList<>(update);
        if (update.isEmpty()) {
            steps.addAll(body instanceof BlockTree ? ((BlockTree) body).getStatements() : List.of(body));
        }
        boolean ends = false;
        for (ExpressionTree part : partsOf(condition)) {
            ends = ends || isBound(part, steps, body, update.isEmpty());
        }
        breaks(9, loop, !ends, "a loop without an end that can be seen");
    }

    private static List<ExpressionTree> partsOf(ExpressionTree condition) {
        List<ExpressionTree> parts = new ArrayList<>();
        if (condition instanceof ParenthesizedTree) {
            parts.addAll(partsOf(((ParenthesizedTree) condition).getExpression()));
        } else if (condition != null && condition.getKind() == Tree.Kind.CONDITIONAL_AND) {
            parts.addAll(partsOf(((BinaryTree) condition).getLeftOperand()));
            parts.addAll(partsOf(((BinaryTree) condition).getRightOperand()));
        } else if (condition != null) {
            parts.add(condition);
        }
        return parts;
    }

    private boolean isBound(ExpressionTree part, List<StatementTree> steps, StatementTree body, boolean inBody) {
        boolean up = part.getKind() == Tree.Kind.LESS_THAN || part.getKind() == Tree.Kind.LESS_THAN_EQUAL;
        boolean down = part.getKind() == Tree.Kind.GREATER_THAN || part.getKind() == Tree.Kind.GREATER_THAN_EQUAL;
        if (!up && !down) {
            return false;
        }
        Element counter = trees.getElement(trees.getPath(unit, ((BinaryTree) part).getLeftOperand()));
        if (counter == null || (counter.getKind() != ElementKind.LOCAL_VARIABLE
                && counter.getKind() != ElementKind.PARAMETER)) {
            return false;
        }
        int stepped = 0;
        for (StatementTree step : steps) {
            stepped += step instanceof ExpressionStatementTree
                    && isStep(((ExpressionStatementTree) step).getExpression(), counter, up) ? 1 : 0;
        }
        return stepped == 1 && changesOf(counter, body, inBody) == (inBody ? 1 : 0);
    }

    private boolean isStep(ExpressionTree tree, Element counter, boolean up) {
        Tree.Kind kind = tree.getKind();
        if (tree instanceof UnaryTree) {
            return isNamed(((UnaryTree) tree).getExpression(), counter)
                    && (kind == (up ? Tree.Kind.POSTFIX_INCREMENT : Tree.Kind.POSTFIX_DECREMENT));
        }
        return kind == (up ? Tree.Kind.PLUS_ASSIGNMENT : Tree.Kind.MINUS_ASSIGNMENT)
                && isNamed(((CompoundAssignmentTree) tree).getVariable(), counter)
                && isNonZero(((CompoundAssignmentTree) tree).getExpression());
    }

    private boolean isNamed(ExpressionTree tree, Element counter) {
        return counter.equals(trees.getElement(trees.getPath(unit, tree)));
    }

    // How often the body names the counter as what is changed; a continue in a loop whose body
    // holds the step counts too, since it may go round the step.
    private int changesOf(Element counter, StatementTree body, boolean inBody) {
        int[] changes = {0};
        new TreePathScanner<Void, Void>() {
            @Override
            public Void visitAssignment(AssignmentTree tree, Void none) {
                changes[0] += isNamed(tree.getVariable(), counter) ? 1 : 0;
                return super.visitAssignment(tree, none);
            }

            @Override
            public Void visitCompoundAssignment(CompoundAssignmentTree tree, Void none) {
                changes[0] += isNamed(tree.getVariable(), counter) ? 1 : 0;
                return super.visitCompoundAssignment(tree, none);
            }

            @Override
            public Void visitUnary(UnaryTree tree, Void none) {
                boolean sets = !Set.of(Tree.Kind.UNARY_MINUS, Tree.Kind.UNARY_PLUS,
                        Tree.Kind.LOGICAL_COMPLEMENT, Tree.Kind.BITWISE_COMPLEMENT).contains(tree.getKind());
                changes[0] += sets && isNamed(tree.getExpression(), counter) ? 1 : 0;
                return super.visitUnary(tree, none);
            }

            @Override
            public Void visitContinue(ContinueTree tree, Void none) {
                changes[0] += inBody ? 1 : 0;
                return super.visitContinue(tree, none);
            }
        }.scan(trees.getPath(unit, body), null);
        return changes[0];
    }

    @Override
    public Void visitSwitch(SwitchTree tree, Void unused) {
        breaks(10, tree, isText(typeOf(tree.getExpression())), "a switch on texts");
        return super.visitSwitch(tree, unused);
    }

    @Override
    public Void visitSwitchExpression(SwitchExpressionTree tree, Void unused) {
        breaks(10, tree, isText(typeOf(tree.getExpression())), "a switch on texts");
        return super.visitSwitchExpression(tree, unused);
    }

    @Override
    public Void visitLambdaExpression(LambdaExpressionTree tree, Void unused) {
        breaks(2, tree, true, "a lambda");
        return super.visitLambdaExpression(tree, unused);
    }

    @Override
    public Void visitMemberReference(MemberReferenceTree tree, Void unused) {
        breaks(2, tree, true, "a method reference");
        return super.visitMemberReference(tree, unused);
    }

    // ---- what the looks share

    private Element elementOf(Tree tree) {
        return trees.getElement(trees.getPath(unit, tree));
    }

    private TypeMirror typeOf(Tree tree) {
        return trees.getTypeMirror(trees.getPath(unit, tree));
    }

    private static boolean isText(TypeMirror type) {
        return type.toString().equals("java.lang.String");
    }

    private static boolean isOwn(Element element) {
        Element outermost = element;
        while (outermost.getEnclosingElement() != null
                && outermost.getEnclosingElement().getKind() != ElementKind.PACKAGE) {
            outermost = outermost.getEnclosingElement();
        }
        return outermost.toString().equals(CLASS);
    }

    private static String nameOf(Element element) {
        return element instanceof TypeElement
                ? ((TypeElement) element).getQualifiedName().toString() : String.valueOf(element);
    }

    private long lineOf(Tree tree) {
        long start = positions.getStartPosition(unit, tree);
        return start < 0 ? 0 : unit.getLineMap().getLineNumber(start);
    }

    private void breaks(int rule, Tree tree, boolean broken, String what) {
        if (broken) {
            findings.add("rule " + rule + ": line " + lineOf(tree) + ": " + what);
        }
    }
}
