import com.sun.source.tree.AssertTree;
import com.sun.source.tree.AssignmentTree;
import com.sun.source.tree.BinaryTree;
import com.sun.source.tree.BlockTree;
import com.sun.source.tree.ClassTree;
import com.sun.source.tree.CompilationUnitTree;
import com.sun.source.tree.CompoundAssignmentTree;
import com.sun.source.tree.DoWhileLoopTree;
import com.sun.source.tree.ExpressionTree;
import com.sun.source.tree.ForLoopTree;
import com.sun.source.tree.IdentifierTree;
import com.sun.source.tree.LambdaExpressionTree;
import com.sun.source.tree.MemberReferenceTree;
import com.sun.source.tree.MemberSelectTree;
import com.sun.source.tree.MethodInvocationTree;
import com.sun.source.tree.MethodTree;
import com.sun.source.tree.NewArrayTree;
import com.sun.source.tree.NewClassTree;
import com.sun.source.tree.StatementTree;
import com.sun.source.tree.SynchronizedTree;
import com.sun.source.tree.ThrowTree;
import com.sun.source.tree.Tree;
import com.sun.source.tree.TryTree;
import com.sun.source.tree.UnaryTree;
import com.sun.source.tree.VariableTree;
import com.sun.source.tree.WhileLoopTree;
import com.sun.source.util.TreePath;
import com.sun.source.util.TreePathScanner;
import com.sun.source.util.TreeScanner;
import com.sun.source.util.Trees;
import java.util.HashMap;
import java.util.HashSet;
import java.util.LinkedHashMap;
import java.util.LinkedHashSet;
import java.util.List;
import java.util.Map;
import java.util.Set;
import java.util.TreeSet;
import java.util.stream.Collectors;
import javax.lang.model.element.Element;
import javax.lang.model.element.ElementKind;
import javax.lang.model.element.ExecutableElement;
import javax.lang.model.element.Modifier;
import javax.lang.model.element.VariableElement;
import javax.lang.model.type.ArrayType;
import javax.lang.model.type.TypeKind;
import javax.lang.model.type.TypeMirror;

/**
 * Goes through a program as the compiler has read it and tells what LANGUAGE.md refuses. Where a rule leaves more than
 * SlipDesk uses (lists, enums, objects made by a call, while), it is stricter than the rule: widen it when one is used.
 */
final class LanguageRules extends TreePathScanner<Void, Void> {
    private static final int MOST_PARAMETERS = 7;
    private static final int MOST_LINES = 60;
    private static final int MOST_CLASSES = 12;
    private static final int MOST_FIELDS = 20;
    private static final int MOST_CALLS_DEEP = 8;
    private static final String FACE = "SlipDesk";
    private static final Set<String> LIBRARY = Set.of("String.length", "String.charAt", "String.isEmpty",
            "String.equals", "String.indexOf", "String.substring", "String.toCharArray", "Integer.compare",
            "Integer.max", "Integer.min", "Integer.bitCount", "Long.compare", "Long.max", "Long.min", "Math.max",
            "Math.min", "Math.abs", "Math.floorDiv", "Math.floorMod", "System.arraycopy", "Arrays.fill");

    private final Trees trees;
    private final CompilationUnitTree unit;
    private final List<String> faults;
    private final Map<ExecutableElement, Set<ExecutableElement>> calls = new LinkedHashMap<>();
    private final Map<ExecutableElement, Integer> deep = new HashMap<>();
    private final TreeSet<String> face = new TreeSet<>();
    private final Set<String> faceNames = new HashSet<>();
    private final Set<String> otherNames = new LinkedHashSet<>();
    private int classes;

    LanguageRules(Trees trees, CompilationUnitTree unit, List<String> faults) {
        this.trees = trees;
        this.unit = unit;
        this.faults = faults;
    }

    String face() {
        return String.join("\n", face);
    }

    private void refuse(int rule, Tree tree, String what) {
        long at = trees.getSourcePositions().getStartPosition(unit, tree);
        faults.add("rule " + rule + ": " + what + " in line " + unit.getLineMap().getLineNumber(Math.max(0, at)));
    }

    private Element element() {
        return trees.getElement(getCurrentPath());
    }

    private TypeMirror typeOf(Tree tree) {
        return trees.getTypeMirror(new TreePath(getCurrentPath(), tree));
    }

    private static boolean isOwn(Element element) {
        Element outer = element;
        while (outer != null && outer.getEnclosingElement() != null
                && outer.getEnclosingElement().getKind() != ElementKind.PACKAGE) {
            outer = outer.getEnclosingElement();
        }
        return outer != null && outer.getSimpleName().contentEquals(FACE);
    }

    private MethodTree methodAround() {
        for (Tree tree : getCurrentPath()) {
            if (tree instanceof MethodTree method) {
                return method;
            }
        }
        return null;
    }

    private ExecutableElement around() {
        for (TreePath path = getCurrentPath(); path != null; path = path.getParentPath()) {
            if (path.getLeaf() instanceof MethodTree) {
                return (ExecutableElement) trees.getElement(path);
            }
        }
        return null;
    }

    // ---- classes and members

    @Override
    public Void visitCompilationUnit(CompilationUnitTree tree, Void v) {
        if (tree.getPackageName() != null) {
            refuse(1, tree, "a package line");
        }
        if (!tree.getImports().isEmpty()) {
            refuse(4, tree, "an import");
        }
        if (tree.getTypeDecls().size() != 1) {
            refuse(1, tree, "more than one class of its own");
        }
        return super.visitCompilationUnit(tree, v);
    }

    @Override
    public Void visitClass(ClassTree tree, Void v) {
        Set<Modifier> is = tree.getModifiers().getFlags();
        Tree parent = getCurrentPath().getParentPath().getLeaf();
        classes++;
        if (classes > MOST_CLASSES) {
            refuse(11, tree, "one class too many");
        }
        if (parent instanceof CompilationUnitTree) {
            if (!is.contains(Modifier.PUBLIC) || !is.contains(Modifier.FINAL)) {
                refuse(1, tree, "a class that is not public and final");
            }
        } else if (!(parent instanceof ClassTree)) {
            refuse(2, tree, "a local or anonymous class");
        } else {
            if (!is.contains(Modifier.STATIC) && tree.getKind() == Tree.Kind.CLASS) {
                refuse(2, tree, "an inner class");
            }
            if (is.contains(Modifier.PUBLIC) || is.contains(Modifier.PROTECTED)) {
                refuse(1, tree, "a class inside that is seen outside");
            }
        }
        long fields = tree.getMembers().stream().filter(m -> m instanceof VariableTree f
                && !f.getModifiers().getFlags().contains(Modifier.STATIC)).count();
        if (fields > MOST_FIELDS) {
            refuse(11, tree, fields + " fields");
        }
        return super.visitClass(tree, v);
    }

    /** Whether the tree stands right inside the one public class. */
    private boolean isMemberOfFace() {
        TreePath parent = getCurrentPath().getParentPath();
        return parent.getLeaf() instanceof ClassTree
                && parent.getParentPath().getLeaf() instanceof CompilationUnitTree;
    }

    /** Notes what is seen of the one class; what is neither private nor public is no part of any face. */
    private void noteMember(Tree tree, Set<Modifier> is, String told) {
        if (!isMemberOfFace() || is.contains(Modifier.PRIVATE)) {
            return;
        }
        if (!is.contains(Modifier.PUBLIC)) {
            refuse(1, tree, "a member that is neither private nor public");
        }
        face.add(told);
    }

    @Override
    public Void visitMethod(MethodTree tree, Void v) {
        ExecutableElement method = (ExecutableElement) element();
        boolean makes = tree.getReturnType() == null;
        String name = makes ? FACE : tree.getName().toString();
        String parameters = tree.getParameters().stream().map(p -> p.getType().toString())
                .collect(Collectors.joining(",", "(", ")"));
        boolean isFace = isMemberOfFace() && tree.getModifiers().getFlags().contains(Modifier.PUBLIC);
        if (!makes) {
            (isFace ? faceNames : otherNames).add(name);
        }
        // What the compiler adds stands at no line of its own.
        long from = trees.getSourcePositions().getStartPosition(unit, tree);
        long to = trees.getSourcePositions().getEndPosition(unit, tree);
        boolean written = to > from;
        if (written || !makes) {
            noteMember(tree, tree.getModifiers().getFlags(),
                    (makes ? "" : tree.getReturnType() + " ") + name + parameters);
        }
        if (tree.getParameters().size() > MOST_PARAMETERS) {
            refuse(11, tree, name + " takes too much");
        }
        if (written && unit.getLineMap().getLineNumber(to) - unit.getLineMap().getLineNumber(from) >= MOST_LINES) {
            refuse(11, tree, name + " is too long");
        }
        if (!tree.getThrows().isEmpty() || tree.getModifiers().getFlags().contains(Modifier.SYNCHRONIZED)) {
            refuse(6, tree, name + " throws or is synchronized");
        }
        if (!makes && !isAllowed(method.getReturnType())) {
            refuse(3, tree, "the type of " + name);
        }
        calls.computeIfAbsent(method, m -> new LinkedHashSet<>());
        return super.visitMethod(tree, v);
    }

    @Override
    public Void visitVariable(VariableTree tree, Void v) {
        VariableElement variable = (VariableElement) element();
        if (!isAllowed(variable.asType())) {
            refuse(3, tree, "the type of " + tree.getName());
        }
        if (variable.getKind() == ElementKind.FIELD) {
            Object value = variable.getConstantValue();
            noteMember(tree, tree.getModifiers().getFlags(),
                    "static final " + tree.getType() + " " + tree.getName() + " = " + value);
            if (variable.getModifiers().contains(Modifier.STATIC)) {
                judgeStatic(tree, variable);
            }
        }
        return super.visitVariable(tree, v);
    }

    private void judgeStatic(VariableTree tree, VariableElement variable) {
        boolean writtenOut = tree.getInitializer() instanceof NewArrayTree array && array.getType() == null
                && Set.of("int[]", "long[]", "char[]", "byte[]").contains(variable.asType().toString());
        if (!variable.getModifiers().contains(Modifier.FINAL) || variable.getConstantValue() == null && !writtenOut) {
            refuse(5, tree, "the static " + tree.getName());
        }
    }

    private static boolean isAllowed(TypeMirror type) {
        if (type.getKind() == TypeKind.VOID || type.getKind().isPrimitive()) {
            return true;
        }
        if (type instanceof ArrayType array) {
            TypeMirror part = array.getComponentType();
            return part instanceof ArrayType inner ? inner.getComponentType().getKind().isPrimitive() : isAllowed(part);
        }
        String name = type.toString();
        return name.equals("java.lang.String") || name.equals(FACE) || name.startsWith(FACE + ".");
    }

    // ---- what may not stand anywhere

    @Override
    public Void visitLambdaExpression(LambdaExpressionTree tree, Void v) {
        refuse(2, tree, "a lambda");
        return super.visitLambdaExpression(tree, v);
    }

    @Override
    public Void visitMemberReference(MemberReferenceTree tree, Void v) {
        refuse(2, tree, "a method reference");
        return super.visitMemberReference(tree, v);
    }

    @Override
    public Void visitThrow(ThrowTree tree, Void v) {
        refuse(6, tree, "throw");
        return super.visitThrow(tree, v);
    }

    @Override
    public Void visitTry(TryTree tree, Void v) {
        refuse(6, tree, "try");
        return super.visitTry(tree, v);
    }

    @Override
    public Void visitSynchronized(SynchronizedTree tree, Void v) {
        refuse(6, tree, "synchronized");
        return super.visitSynchronized(tree, v);
    }

    @Override
    public Void visitAssert(AssertTree tree, Void v) {
        refuse(6, tree, "assert");
        return super.visitAssert(tree, v);
    }

    @Override
    public Void visitBlock(BlockTree tree, Void v) {
        if (getCurrentPath().getParentPath().getLeaf() instanceof ClassTree) {
            refuse(5, tree, "an initialiser block");
        }
        return super.visitBlock(tree, v);
    }

    // ---- loops

    @Override
    public Void visitWhileLoop(WhileLoopTree tree, Void v) {
        refuse(9, tree, "while");
        return super.visitWhileLoop(tree, v);
    }

    @Override
    public Void visitDoWhileLoop(DoWhileLoopTree tree, Void v) {
        refuse(9, tree, "do");
        return super.visitDoWhileLoop(tree, v);
    }

    @Override
    public Void visitForLoop(ForLoopTree tree, Void v) {
        String counter = tree.getInitializer().size() == 1
                && tree.getInitializer().get(0) instanceof VariableTree first ? first.getName().toString() : "";
        boolean steps = tree.getUpdate().size() == 1 && tree.getUpdate().get(0).toString().startsWith(counter)
                && !counter.isEmpty();
        boolean bounded = tree.getCondition() != null && isBound(tree.getCondition(), counter);
        if (!steps || !bounded || isSet(tree.getStatement(), counter)) {
            refuse(9, tree, "a loop without a counter against a bound");
        }
        return super.visitForLoop(tree, v);
    }

    /** A counter compared with something, alone or with more that must hold, too. */
    private static boolean isBound(ExpressionTree condition, String counter) {
        if (!(condition instanceof BinaryTree both)) {
            return false;
        }
        switch (both.getKind()) {
            case CONDITIONAL_AND:
                return isBound(both.getLeftOperand(), counter) || isBound(both.getRightOperand(), counter);
            case LESS_THAN, LESS_THAN_EQUAL, GREATER_THAN, GREATER_THAN_EQUAL:
                return both.getLeftOperand().toString().equals(counter);
            default:
                return false;
        }
    }

    private static boolean isSet(StatementTree body, String name) {
        boolean[] set = new boolean[1];
        new TreeScanner<Void, Void>() {
            @Override
            public Void visitAssignment(AssignmentTree tree, Void v) {
                set[0] |= tree.getVariable().toString().equals(name);
                return super.visitAssignment(tree, v);
            }

            @Override
            public Void visitCompoundAssignment(CompoundAssignmentTree tree, Void v) {
                set[0] |= tree.getVariable().toString().equals(name);
                return super.visitCompoundAssignment(tree, v);
            }

            @Override
            public Void visitUnary(UnaryTree tree, Void v) {
                set[0] |= tree.getExpression().toString().equals(name) && tree.toString().matches(".*(\\+\\+|--).*");
                return super.visitUnary(tree, v);
            }
        }.scan(body, null);
        return set[0];
    }

    // ---- reckoning

    @Override
    public Void visitBinary(BinaryTree tree, Void v) {
        String left = String.valueOf(typeOf(tree.getLeftOperand()));
        String right = String.valueOf(typeOf(tree.getRightOperand()));
        boolean texts = left.equals("java.lang.String") || right.equals("java.lang.String");
        switch (tree.getKind()) {
            case PLUS:
                if (texts) {
                    refuse(10, tree, "texts joined by +");
                }
                break;
            case EQUAL_TO, NOT_EQUAL_TO:
                if (texts) {
                    refuse(6, tree, "texts compared by ==");
                }
                break;
            case DIVIDE, REMAINDER:
                judgeDivisor(tree, tree.getRightOperand());
                break;
            default:
                break;
        }
        return super.visitBinary(tree, v);
    }

    @Override
    public Void visitCompoundAssignment(CompoundAssignmentTree tree, Void v) {
        if (tree.getKind() == Tree.Kind.DIVIDE_ASSIGNMENT || tree.getKind() == Tree.Kind.REMAINDER_ASSIGNMENT) {
            judgeDivisor(tree, tree.getExpression());
        }
        return super.visitCompoundAssignment(tree, v);
    }

    /** A divisor is a constant, or a name that the same method compares with a number. */
    private void judgeDivisor(Tree tree, ExpressionTree divisor) {
        TreePath path = new TreePath(getCurrentPath(), divisor);
        boolean constant = divisor.getKind() == Tree.Kind.INT_LITERAL || divisor.getKind() == Tree.Kind.LONG_LITERAL
                || trees.getElement(path) instanceof VariableElement name && name.getConstantValue() != null;
        boolean looked = divisor instanceof IdentifierTree && methodAround() != null && methodAround().getBody()
                .toString().matches("(?s).*\\b" + divisor + " (==|<=|>|>=|!=|<) [01]\\b.*");
        if (!constant && !looked) {
            refuse(7, tree, "a divisor that is not looked at: " + divisor);
        }
    }

    // ---- calls, and what is made

    @Override
    public Void visitMethodInvocation(MethodInvocationTree tree, Void v) {
        ExecutableElement called = (ExecutableElement) element();
        String name = called.getEnclosingElement().getSimpleName() + "." + called.getSimpleName();
        boolean hidden = called.getSimpleName().contentEquals("<init>");
        if (!hidden && !isOwn(called)) {
            boolean own = tree.getMethodSelect() instanceof MemberSelectTree select
                    && isAllowed(typeOf(select.getExpression())) && name.startsWith("Object.");
            if (own || name.equals("Object.clone") || name.startsWith("Array.")) {
                refuse(name.endsWith("clone") ? 12 : 6, tree, name);
            } else if (!LIBRARY.contains(name)) {
                refuse(4, tree, name);
            }
        }
        if (!hidden && around() != null) {
            calls.computeIfAbsent(around(), m -> new LinkedHashSet<>()).add(called);
        }
        return super.visitMethodInvocation(tree, v);
    }

    @Override
    public Void visitNewClass(NewClassTree tree, Void v) {
        Element made = element();
        if (made != null && !isOwn(made)) {
            refuse(4, tree, "an object of the library");
        }
        judgeMaking(tree);
        return super.visitNewClass(tree, v);
    }

    @Override
    public Void visitNewArray(NewArrayTree tree, Void v) {
        judgeMaking(tree);
        return super.visitNewArray(tree, v);
    }

    /** Only constructors and fields make something, so that what a run makes is what its desks are made of. */
    private void judgeMaking(Tree tree) {
        if (methodAround() != null && methodAround().getReturnType() != null) {
            refuse(12, tree, methodAround().getName() + " makes something");
        }
    }

    void judgeCalls() {
        for (String name : otherNames) {
            if (faceNames.contains(name)) {
                faults.add("rule 1: a method that is not of the face is called " + name);
            }
        }
        for (ExecutableElement method : calls.keySet()) {
            if (reaches(method, method, new HashSet<>())
                    && method.getParameters().stream().noneMatch(p -> p.getSimpleName().contentEquals("depth"))) {
                faults.add("rule 8: " + method + " comes back to itself without a depth");
            }
        }
        for (ExecutableElement method : calls.keySet()) {
            int most = deepest(method, new HashSet<>());
            if (most > MOST_CALLS_DEEP) {
                faults.add("rule 11: calls from " + method + " go " + most + " deep");
            }
        }
    }

    private boolean reaches(ExecutableElement from, ExecutableElement goal, Set<ExecutableElement> seen) {
        for (ExecutableElement next : calls.getOrDefault(from, Set.of())) {
            if (next.equals(goal) || seen.add(next) && reaches(next, goal, seen)) {
                return true;
            }
        }
        return false;
    }

    /** How many calls stand open at most, the library's too, if none comes back to one that stands open. */
    private int deepest(ExecutableElement from, Set<ExecutableElement> open) {
        Integer known = deep.get(from);
        if (known != null) {
            return known;
        }
        int most = 0;
        open.add(from);
        boolean whole = true;
        for (ExecutableElement next : calls.getOrDefault(from, Set.of())) {
            if (open.contains(next)) {
                whole = false;
            } else {
                most = Math.max(most, deepest(next, open));
            }
        }
        open.remove(from);
        // What was cut short depends on what stood open, and so do those that lead to it.
        if (whole && !reaches(from, from, new HashSet<>())) {
            deep.put(from, most + 1);
        }
        return most + 1;
    }
}
