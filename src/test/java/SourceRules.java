import com.sun.source.tree.ArrayAccessTree;
import com.sun.source.tree.AssertTree;
import com.sun.source.tree.AssignmentTree;
import com.sun.source.tree.BinaryTree;
import com.sun.source.tree.BlockTree;
import com.sun.source.tree.CatchTree;
import com.sun.source.tree.ClassTree;
import com.sun.source.tree.CompilationUnitTree;
import com.sun.source.tree.CompoundAssignmentTree;
import com.sun.source.tree.DoWhileLoopTree;
import com.sun.source.tree.ExpressionTree;
import com.sun.source.tree.ForLoopTree;
import com.sun.source.tree.IdentifierTree;
import com.sun.source.tree.ImportTree;
import com.sun.source.tree.LambdaExpressionTree;
import com.sun.source.tree.LiteralTree;
import com.sun.source.tree.MemberReferenceTree;
import com.sun.source.tree.MethodInvocationTree;
import com.sun.source.tree.MethodTree;
import com.sun.source.tree.NewArrayTree;
import com.sun.source.tree.NewClassTree;
import com.sun.source.tree.ParenthesizedTree;
import com.sun.source.tree.SynchronizedTree;
import com.sun.source.tree.ThrowTree;
import com.sun.source.tree.Tree;
import com.sun.source.tree.TryTree;
import com.sun.source.tree.TypeCastTree;
import com.sun.source.tree.UnaryTree;
import com.sun.source.tree.VariableTree;
import com.sun.source.tree.WhileLoopTree;
import com.sun.source.util.JavacTask;
import com.sun.source.util.TreePath;
import com.sun.source.util.TreePathScanner;
import com.sun.source.util.TreeScanner;
import com.sun.source.util.Trees;
import java.io.IOException;
import java.net.URI;
import java.util.ArrayList;
import java.util.LinkedHashMap;
import java.util.LinkedHashSet;
import java.util.List;
import java.util.Map;
import java.util.Set;
import javax.lang.model.element.Element;
import javax.lang.model.element.ElementKind;
import javax.lang.model.element.ExecutableElement;
import javax.lang.model.element.Modifier;
import javax.lang.model.element.VariableElement;
import javax.lang.model.type.ArrayType;
import javax.lang.model.type.DeclaredType;
import javax.lang.model.type.TypeKind;
import javax.lang.model.type.TypeMirror;
import javax.tools.DiagnosticCollector;
import javax.tools.JavaFileObject;
import javax.tools.SimpleJavaFileObject;
import javax.tools.ToolProvider;

/**
 * Looks through a source, as javac reads it, for what LANGUAGE.md rules out. Where a rule leaves more than the class
 * uses, it is stricter: no while, no cast of references, no text beside constants, no object made but by constructors.
 */
final class SourceRules extends TreePathScanner<Void, Void> {
    private static final int MOST_CLASSES = 12;
    private static final int MOST_FIELDS = 20;
    private static final int MOST_PARAMETERS = 7;
    private static final int MOST_LINES = 60;
    private static final int MOST_DEEP = 8;
    private static final Set<String> STATIC_FUNCTIONS = Set.of("java.lang.Math", "java.lang.Integer", "java.lang.Long");
    private static final Set<String> OF_ARRAYS = Set.of("copyOf", "copyOfRange", "fill");
    private static final Set<TypeKind> WHOLE = Set.of(TypeKind.INT, TypeKind.LONG);
    private static final Set<TypeKind> CONSTANT = Set.of(TypeKind.INT, TypeKind.LONG, TypeKind.BOOLEAN, TypeKind.CHAR);
    private static final Set<TypeKind> IN_CONSTANT_ROW = Set.of(TypeKind.INT, TypeKind.LONG, TypeKind.CHAR, TypeKind.BYTE);

    private final List<String> faults = new ArrayList<>();
    private final Map<Element, Set<Element>> calls = new LinkedHashMap<>();
    private final Set<String> publicNames = new LinkedHashSet<>();
    private final CompilationUnitTree unit;
    private final Trees trees;
    private int classes = 0;

    private SourceRules(CompilationUnitTree unit, Trees trees) {
        this.unit = unit;
        this.trees = trees;
    }

    /** Each fault as "rule 6, line 12: what it is". */
    static List<String> faultsOf(String source) throws IOException {
        DiagnosticCollector<JavaFileObject> told = new DiagnosticCollector<>();
        JavaFileObject file = new SimpleJavaFileObject(URI.create("string:///AlternatingAutomata.java"),
                JavaFileObject.Kind.SOURCE) {
            @Override
            public CharSequence getCharContent(boolean ignoreEncodingErrors) {
                return source;
            }
        };
        JavacTask task = (JavacTask) ToolProvider.getSystemJavaCompiler()
            .getTask(null, null, told, List.of("-proc:none"), null, List.of(file));
        CompilationUnitTree unit = task.parse().iterator().next();
        task.analyze();
        SourceRules rules = new SourceRules(unit, Trees.instance(task));
        told.getDiagnostics().forEach(d -> rules.faults.add("javac: " + d));
        if (rules.faults.isEmpty()) {
            rules.scan(new TreePath(unit), null);
            rules.lookAtCalls();
        }
        return rules.faults;
    }

    private void fault(int rule, Tree tree, String what) {
        long line = tree == null ? 0 : unit.getLineMap().getLineNumber(trees.getSourcePositions().getStartPosition(unit, tree));
        faults.add("rule " + rule + ", line " + line + ": " + what);
    }

    private void faultIf(boolean isFault, int rule, Tree tree, String what) {
        if (isFault) {
            fault(rule, tree, what);
        }
    }

    private Element elementOf(Tree tree) {
        return trees.getElement(TreePath.getPath(unit, tree));
    }

    private TypeMirror typeOf(Tree tree) {
        return trees.getTypeMirror(TreePath.getPath(unit, tree));
    }

    private Tree parent() {
        return getCurrentPath().getParentPath().getLeaf();
    }

    // Rules 1, 2 and 13: the file and its classes

    @Override
    public Void visitCompilationUnit(CompilationUnitTree tree, Void nothing) {
        faultIf(tree.getPackageName() != null, 1, tree, "a package line");
        faultIf(tree.getTypeDecls().size() != 1, 1, tree, "more than one class in the file");
        for (Tree type : tree.getTypeDecls()) {
            Element face = elementOf(type);
            faultIf(!face.getModifiers().containsAll(Set.of(Modifier.PUBLIC, Modifier.FINAL)), 1, type, "not public and final");
            for (Element member : face.getEnclosedElements()) {
                if (member.getKind() == ElementKind.METHOD && member.getModifiers().contains(Modifier.PUBLIC)) {
                    publicNames.add(member.getSimpleName().toString());
                }
            }
        }
        return super.visitCompilationUnit(tree, nothing);
    }

    @Override
    public Void visitImport(ImportTree tree, Void nothing) {
        String name = tree.getQualifiedIdentifier().toString();
        faultIf(!Set.of("java.util.Arrays", "java.util.ArrayList", "java.util.List").contains(name), 4, tree, "import " + name);
        return null;
    }

    @Override
    public Void visitClass(ClassTree tree, Void nothing) {
        Element type = elementOf(tree);
        classes++;
        faultIf(classes == MOST_CLASSES + 1, 11, tree, "too many classes");
        if (parent() instanceof ClassTree) {
            faultIf(!type.getModifiers().contains(Modifier.STATIC), 2, tree, "a class inside that is not static");
            faultIf(isOpen(type), 1, tree, "a class inside that is public or protected");
        } else {
            faultIf(!(parent() instanceof CompilationUnitTree), 2, tree, "a local or anonymous class");
        }
        int fields = 0;
        for (Tree member : tree.getMembers()) {
            faultIf(member instanceof BlockTree, 5, member, "an initialiser block");
            if (member instanceof VariableTree && !elementOf(member).getModifiers().contains(Modifier.STATIC)) {
                fields++;
            }
        }
        faultIf(fields > MOST_FIELDS, 11, tree, "too many fields");
        return super.visitClass(tree, nothing);
    }

    private static boolean isOpen(Element element) {
        return element.getModifiers().contains(Modifier.PUBLIC) || element.getModifiers().contains(Modifier.PROTECTED);
    }

    private boolean isFace(Element type) {
        return type.getEnclosingElement().getKind() == ElementKind.PACKAGE;
    }

    @Override
    public Void visitLambdaExpression(LambdaExpressionTree tree, Void nothing) {
        fault(2, tree, "a lambda");
        return null;
    }

    @Override
    public Void visitMemberReference(MemberReferenceTree tree, Void nothing) {
        fault(2, tree, "a method reference");
        return null;
    }

    // Rules 1, 3, 5, 6 and 11: methods and variables

    @Override
    public Void visitMethod(MethodTree tree, Void nothing) {
        ExecutableElement method = (ExecutableElement) elementOf(tree);
        Set<Modifier> modifiers = method.getModifiers();
        calls.putIfAbsent(method, new LinkedHashSet<>());
        boolean isInside = !isFace(method.getEnclosingElement());
        String name = method.getSimpleName().toString();
        faultIf(!isInside && !modifiers.contains(Modifier.PUBLIC) && !modifiers.contains(Modifier.PRIVATE), 1, tree,
            name + " is neither public nor private");
        faultIf((isInside || !modifiers.contains(Modifier.PUBLIC)) && publicNames.contains(name), 1, tree,
            name + " bears the name of a public method");
        faultIf(Set.of("equals", "hashCode", "toString").contains(name), 6, tree, name + " of an object");
        faultIf(!tree.getThrows().isEmpty() || modifiers.contains(Modifier.SYNCHRONIZED), 6, tree, name + " throws or locks");
        faultIf(modifiers.contains(Modifier.NATIVE), 4, tree, name + " is native");
        faultIf(tree.getParameters().size() > MOST_PARAMETERS, 11, tree, name + " takes too many parameters");
        faultIf(linesOf(tree) > MOST_LINES, 11, tree, name + " is too long");
        TypeKind answer = method.getReturnType().getKind();
        faultIf(answer != TypeKind.VOID && !isType(method.getReturnType()), 3, tree, "type " + method.getReturnType());
        return super.visitMethod(tree, nothing);
    }

    private long linesOf(Tree tree) {
        long begin = trees.getSourcePositions().getStartPosition(unit, tree);
        long end = trees.getSourcePositions().getEndPosition(unit, tree);
        // What javac adds, such as a record's or a class's constructor, has no end of its own.
        return end < 0 ? 0 : unit.getLineMap().getLineNumber(end) - unit.getLineMap().getLineNumber(begin) + 1;
    }

    @Override
    public Void visitVariable(VariableTree tree, Void nothing) {
        Element variable = elementOf(tree);
        TypeMirror type = variable.asType();
        faultIf(!isType(type), 3, tree, "type " + type);
        Set<Modifier> modifiers = variable.getModifiers();
        if (variable.getKind() == ElementKind.FIELD && modifiers.contains(Modifier.STATIC)) {
            faultIf(!modifiers.contains(Modifier.FINAL), 5, tree, tree.getName() + " is static and not final");
            faultIf(!isConstant(type, tree.getInitializer()), 5, tree, tree.getName() + " is no constant");
        }
        if (variable.getKind() == ElementKind.FIELD && isFace(variable.getEnclosingElement())) {
            boolean isConstant = modifiers.containsAll(Set.of(Modifier.PUBLIC, Modifier.STATIC));
            faultIf(!isConstant && !modifiers.contains(Modifier.PRIVATE), 1, tree, tree.getName() + " is open");
        }
        return super.visitVariable(tree, nothing);
    }

    private static boolean isConstant(TypeMirror type, ExpressionTree value) {
        if (type instanceof ArrayType) {
            boolean isWritten = value instanceof NewArrayTree && ((NewArrayTree) value).getInitializers() != null;
            return isWritten && IN_CONSTANT_ROW.contains(((ArrayType) type).getComponentType().getKind());
        }
        return CONSTANT.contains(type.getKind()) || type.toString().equals("java.lang.String");
    }

    private boolean isType(TypeMirror type) {
        if (!(type instanceof ArrayType)) {
            return type.getKind().isPrimitive() || isOwn(type) || type.toString().equals("java.lang.String");
        }
        TypeMirror part = ((ArrayType) type).getComponentType();
        if (part instanceof ArrayType) {
            part = ((ArrayType) part).getComponentType();
            return part.getKind().isPrimitive() && part.getKind() != TypeKind.BOOLEAN;
        }
        return part.getKind().isPrimitive() || isOwn(part);
    }

    private boolean isOwn(TypeMirror type) {
        return type instanceof DeclaredType && isOwn(((DeclaredType) type).asElement());
    }

    private boolean isOwn(Element element) {
        for (Element at = element; at != null; at = at.getEnclosingElement()) {
            if (at.getKind().isClass() && isFace(at)) {
                return at.equals(elementOf(unit.getTypeDecls().get(0)));
            }
        }
        return false;
    }

    @Override
    public Void visitAssignment(AssignmentTree tree, Void nothing) {
        lookAtTarget(tree.getVariable());
        return super.visitAssignment(tree, nothing);
    }

    @Override
    public Void visitCompoundAssignment(CompoundAssignmentTree tree, Void nothing) {
        lookAtTarget(tree.getVariable());
        lookAtDivisor(tree, tree.getExpression());
        return super.visitCompoundAssignment(tree, nothing);
    }

    @Override
    public Void visitUnary(UnaryTree tree, Void nothing) {
        if (tree.getKind().name().endsWith("CREMENT")) {
            lookAtTarget(tree.getExpression());
        }
        return super.visitUnary(tree, nothing);
    }

    private void lookAtTarget(ExpressionTree target) {
        if (target instanceof ArrayAccessTree) {
            Element row = elementOf(((ArrayAccessTree) target).getExpression());
            boolean isStatic = row != null && row.getModifiers().contains(Modifier.STATIC);
            faultIf(isStatic, 5, target, "a constant array is changed");
        }
    }

    // Rules 4, 6, 7 and 10: what an expression may be

    @Override
    public Void visitMethodInvocation(MethodInvocationTree tree, Void nothing) {
        ExecutableElement called = (ExecutableElement) elementOf(tree.getMethodSelect());
        if (isOwn(called)) {
            noteCall(tree, called);
        } else {
            faultIf(!isInLibrary(called), 4, tree, "calls " + called.getEnclosingElement() + "." + called);
        }
        return super.visitMethodInvocation(tree, nothing);
    }

    private static boolean isInLibrary(ExecutableElement called) {
        String owner = called.getEnclosingElement().toString();
        String name = called.getSimpleName().toString();
        if (called.getKind() == ElementKind.CONSTRUCTOR) {
            // The call of super() that javac adds.
            return owner.equals("java.lang.Object");
        }
        if (STATIC_FUNCTIONS.contains(owner)) {
            boolean isWhole = called.getParameters().stream().allMatch(p -> WHOLE.contains(p.asType().getKind()));
            return called.getModifiers().contains(Modifier.STATIC) && isWhole && !name.endsWith("Exact");
        }
        return owner.equals("java.util.Arrays") && OF_ARRAYS.contains(name)
            || owner.equals("java.lang.System") && name.equals("arraycopy");
    }

    private void noteCall(Tree tree, ExecutableElement called) {
        Element caller = callerHere();
        calls.computeIfAbsent(caller, c -> new LinkedHashSet<>()).add(called);
        boolean isFixed = called.getModifiers().contains(Modifier.PRIVATE) || called.getModifiers().contains(Modifier.STATIC)
            || called.getKind() == ElementKind.CONSTRUCTOR
            || called.getEnclosingElement().getModifiers().contains(Modifier.FINAL);
        faultIf(caller.getKind() == ElementKind.CONSTRUCTOR && !isFixed, 12, tree, "a constructor calls " + called);
    }

    /** The method around this place; for the initialiser of a field the constructor, which does its work. */
    private Element callerHere() {
        for (TreePath at = getCurrentPath(); at != null; at = at.getParentPath()) {
            if (at.getLeaf() instanceof MethodTree) {
                return trees.getElement(at);
            }
            if (at.getLeaf() instanceof ClassTree) {
                return constructorOf(trees.getElement(at));
            }
        }
        return null;
    }

    private static Element constructorOf(Element type) {
        for (Element member : type.getEnclosedElements()) {
            if (member.getKind() == ElementKind.CONSTRUCTOR) {
                return member;
            }
        }
        return type;
    }

    @Override
    public Void visitNewClass(NewClassTree tree, Void nothing) {
        Element made = elementOf(tree);
        faultIf(!isOwn(made), 4, tree, "makes a " + typeOf(tree));
        faultIf(callerHere().getKind() != ElementKind.CONSTRUCTOR, 12, tree, "a call makes an object");
        calls.computeIfAbsent(callerHere(), c -> new LinkedHashSet<>()).add(made);
        return super.visitNewClass(tree, nothing);
    }

    @Override
    public Void visitNewArray(NewArrayTree tree, Void nothing) {
        faultIf(callerHere().getKind() != ElementKind.CONSTRUCTOR, 12, tree, "a call makes an array");
        for (ExpressionTree length : tree.getDimensions()) {
            Long value = constantValue(length);
            boolean isTested = value == null ? length.toString().matches("Math\\.max\\(.*, 0\\)") : value >= 0;
            faultIf(!isTested, 7, tree, "a length that is not looked at");
        }
        return super.visitNewArray(tree, nothing);
    }

    @Override
    public Void visitBinary(BinaryTree tree, Void nothing) {
        boolean isOfTexts = isText(tree.getLeftOperand()) || isText(tree.getRightOperand());
        faultIf(isOfTexts && tree.getKind() == Tree.Kind.PLUS, 10, tree, "texts joined by +");
        boolean isSame = tree.getKind() == Tree.Kind.EQUAL_TO || tree.getKind() == Tree.Kind.NOT_EQUAL_TO;
        faultIf(isOfTexts && isSame, 6, tree, "texts compared as objects");
        lookAtDivisor(tree, tree.getRightOperand());
        return super.visitBinary(tree, nothing);
    }

    private boolean isText(Tree tree) {
        return typeOf(tree) != null && typeOf(tree).toString().equals("java.lang.String");
    }

    private void lookAtDivisor(Tree tree, ExpressionTree divisor) {
        String kind = tree.getKind().name();
        if (kind.startsWith("DIVIDE") || kind.startsWith("REMAINDER")) {
            Long value = constantValue(divisor);
            faultIf(value == null || value == 0, 7, tree, "a divisor that is not looked at");
        }
    }

    /** Of literals and constants, and of their sums and products; null for all others. */
    private Long constantValue(ExpressionTree tree) {
        if (tree instanceof LiteralTree && ((LiteralTree) tree).getValue() instanceof Number) {
            return ((Number) ((LiteralTree) tree).getValue()).longValue();
        }
        if (tree instanceof IdentifierTree && elementOf(tree) instanceof VariableElement) {
            Object value = ((VariableElement) elementOf(tree)).getConstantValue();
            return value instanceof Number ? Long.valueOf(((Number) value).longValue()) : null;
        }
        if (tree instanceof ParenthesizedTree) {
            return constantValue(((ParenthesizedTree) tree).getExpression());
        }
        if (tree.getKind() == Tree.Kind.PLUS || tree.getKind() == Tree.Kind.MULTIPLY) {
            Long left = constantValue(((BinaryTree) tree).getLeftOperand());
            Long right = constantValue(((BinaryTree) tree).getRightOperand());
            if (left != null && right != null) {
                return Long.valueOf(tree.getKind() == Tree.Kind.PLUS ? left + right : left * right);
            }
        }
        return null;
    }

    @Override
    public Void visitTypeCast(TypeCastTree tree, Void nothing) {
        faultIf(!typeOf(tree.getType()).getKind().isPrimitive(), 6, tree, "a cast of a reference");
        return super.visitTypeCast(tree, nothing);
    }

    @Override
    public Void visitLiteral(LiteralTree tree, Void nothing) {
        String signs = tree.getValue() instanceof String || tree.getValue() instanceof Character
            ? tree.getValue().toString() : "";
        faultIf(signs.chars().anyMatch(sign -> sign < 1 || sign > 127), 4, tree, "a sign beyond 1 to 127");
        return null;
    }

    @Override
    public Void visitThrow(ThrowTree tree, Void nothing) {
        fault(6, tree, "throw");
        return null;
    }

    @Override
    public Void visitTry(TryTree tree, Void nothing) {
        fault(6, tree, "try");
        return null;
    }

    @Override
    public Void visitCatch(CatchTree tree, Void nothing) {
        fault(6, tree, "catch");
        return null;
    }

    @Override
    public Void visitSynchronized(SynchronizedTree tree, Void nothing) {
        fault(6, tree, "synchronized");
        return null;
    }

    @Override
    public Void visitAssert(AssertTree tree, Void nothing) {
        fault(6, tree, "assert");
        return null;
    }

    // Rule 9: loops

    @Override
    public Void visitWhileLoop(WhileLoopTree tree, Void nothing) {
        fault(9, tree, "a while, whose end cannot be seen from its counter");
        return null;
    }

    @Override
    public Void visitDoWhileLoop(DoWhileLoopTree tree, Void nothing) {
        fault(9, tree, "a do, whose end cannot be seen from its counter");
        return null;
    }

    @Override
    public Void visitForLoop(ForLoopTree tree, Void nothing) {
        boolean isCounted = tree.getInitializer().size() == 1 && tree.getInitializer().get(0) instanceof VariableTree
            && tree.getUpdate().size() == 1 && tree.getCondition() != null;
        if (isCounted) {
            String counter = ((VariableTree) tree.getInitializer().get(0)).getName().toString();
            String update = tree.getUpdate().get(0).toString().replace(";", "");
            isCounted = update.equals(counter + "++") && isBounded(tree, tree.getCondition(), counter, "LESS_THAN")
                || update.equals(counter + "--") && isBounded(tree, tree.getCondition(), counter, "GREATER_THAN");
            isCounted = isCounted && !isChangedIn(tree.getStatement(), counter);
        }
        faultIf(!isCounted, 9, tree, "a for without a counter against a bound");
        return super.visitForLoop(tree, nothing);
    }

    /** Whether a part that must hold compares the counter with something that the loop itself does not change. */
    private boolean isBounded(ForLoopTree loop, ExpressionTree condition, String counter, String comparison) {
        if (condition instanceof ParenthesizedTree) {
            return isBounded(loop, ((ParenthesizedTree) condition).getExpression(), counter, comparison);
        }
        if (!(condition instanceof BinaryTree)) {
            return false;
        }
        BinaryTree both = (BinaryTree) condition;
        if (both.getKind() == Tree.Kind.CONDITIONAL_AND) {
            return isBounded(loop, both.getLeftOperand(), counter, comparison)
                || isBounded(loop, both.getRightOperand(), counter, comparison);
        }
        return both.getKind().name().startsWith(comparison) && both.getLeftOperand().toString().equals(counter)
            && !isChangedIn(loop.getStatement(), both.getRightOperand().toString());
    }

    private static boolean isChangedIn(Tree body, String target) {
        boolean[] isChanged = {false};
        new TreeScanner<Void, Void>() {
            @Override
            public Void visitAssignment(AssignmentTree tree, Void nothing) {
                isChanged[0] |= tree.getVariable().toString().equals(target);
                return super.visitAssignment(tree, nothing);
            }

            @Override
            public Void visitCompoundAssignment(CompoundAssignmentTree tree, Void nothing) {
                isChanged[0] |= tree.getVariable().toString().equals(target);
                return super.visitCompoundAssignment(tree, nothing);
            }

            @Override
            public Void visitUnary(UnaryTree tree, Void nothing) {
                boolean isStep = tree.getKind().name().endsWith("CREMENT");
                isChanged[0] |= isStep && tree.getExpression().toString().equals(target);
                return super.visitUnary(tree, nothing);
            }
        }.scan(body, null);
        return isChanged[0];
    }

    // Rules 8 and 11: how deep calls go

    private void lookAtCalls() {
        Map<Element, Integer> depths = new LinkedHashMap<>();
        for (Element method : calls.keySet()) {
            int depth = depthOf(method, depths, new LinkedHashSet<>());
            faultIf(depth > MOST_DEEP, 11, null, method + " goes " + depth + " calls deep");
        }
    }

    /** With the method itself as the first one; the class has no recursion, so any is told. */
    private int depthOf(Element method, Map<Element, Integer> depths, Set<Element> open) {
        if (depths.containsKey(method)) {
            return depths.get(method);
        }
        if (!open.add(method)) {
            fault(8, null, method + " calls itself");
            return 0;
        }
        int deepest = 0;
        for (Element called : calls.getOrDefault(method, Set.of())) {
            deepest = Math.max(deepest, depthOf(called, depths, open));
        }
        open.remove(method);
        depths.put(method, deepest + 1);
        return deepest + 1;
    }
}
