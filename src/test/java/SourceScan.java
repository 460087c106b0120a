import com.sun.source.tree.AnnotationTree;
import com.sun.source.tree.AssertTree;
import com.sun.source.tree.BinaryTree;
import com.sun.source.tree.ClassTree;
import com.sun.source.tree.CompilationUnitTree;
import com.sun.source.tree.DoWhileLoopTree;
import com.sun.source.tree.EnhancedForLoopTree;
import com.sun.source.tree.ExpressionTree;
import com.sun.source.tree.ForLoopTree;
import com.sun.source.tree.IdentifierTree;
import com.sun.source.tree.LambdaExpressionTree;
import com.sun.source.tree.LiteralTree;
import com.sun.source.tree.MemberReferenceTree;
import com.sun.source.tree.MethodInvocationTree;
import com.sun.source.tree.MethodTree;
import com.sun.source.tree.NewArrayTree;
import com.sun.source.tree.NewClassTree;
import com.sun.source.tree.ParenthesizedTree;
import com.sun.source.tree.SynchronizedTree;
import com.sun.source.tree.ThrowTree;
import com.sun.source.tree.Tree;
import com.sun.source.tree.TryTree;
import com.sun.source.tree.UnaryTree;
import com.sun.source.tree.VariableTree;
import com.sun.source.tree.WhileLoopTree;
import com.sun.source.util.TreePath;
import com.sun.source.util.TreePathScanner;
import com.sun.source.util.TreeScanner;
import com.sun.source.util.Trees;
import java.util.ArrayList;
import java.util.HashSet;
import java.util.LinkedHashMap;
import java.util.List;
import java.util.Map;
import java.util.Set;
import javax.lang.model.element.Element;
import javax.lang.model.element.ElementKind;
import javax.lang.model.element.ExecutableElement;
import javax.lang.model.element.Modifier;
import javax.lang.model.element.TypeElement;
import javax.lang.model.element.VariableElement;
import javax.lang.model.type.ArrayType;
import javax.lang.model.type.TypeKind;
import javax.lang.model.type.TypeMirror;

/**
 * Goes through the class's text as the compiler understands it: holds each place against the rules
 * of LANGUAGE.md that can be told there, and notes which methods call one another and make objects.
 */
final class SourceScan extends TreePathScanner<Void, Void> {
    /** All of the library that the class uses, which is less than the rules leave. */
    private static final Set<String> LIBRARY = Set.of("java.util.Arrays.fill", "java.lang.System.arraycopy");
    private static final int MOST_PARAMETERS = 7;
    private static final int MOST_FIELDS = 20;
    private static final int LONGEST_METHOD = 60;

    final Map<ExecutableElement, Set<ExecutableElement>> calls = new LinkedHashMap<>();
    /** Methods and constructors that make objects or arrays. */
    final Set<ExecutableElement> makers = new HashSet<>();
    int classes;

    private final Checks checks;
    private final Trees trees;
    private final CompilationUnitTree unit;
    private ExecutableElement method;

    SourceScan(Checks checks, Trees trees, CompilationUnitTree unit) {
        this.checks = checks;
        this.trees = trees;
        this.unit = unit;
    }

    private void holds(int rule, String what, Tree at, boolean holds) {
        long line = unit.getLineMap().getLineNumber(startOf(at));
        checks.holds("rule " + rule + ", line " + line + ": " + what, holds);
    }

    private long startOf(Tree tree) {
        return trees.getSourcePositions().getStartPosition(unit, tree);
    }

    private Element elementOf(Tree tree) {
        return trees.getElement(TreePath.getPath(unit, tree));
    }

    private TypeMirror typeOf(Tree tree) {
        return trees.getTypeMirror(TreePath.getPath(unit, tree));
    }

    // what is declared

    @Override
    public Void visitClass(ClassTree tree, Void none) {
        classes++;
        boolean outer = getCurrentPath().getParentPath().getLeaf() == unit;
        boolean nested = getCurrentPath().getParentPath().getLeaf() instanceof ClassTree;
        Set<Modifier> modifiers = tree.getModifiers().getFlags();
        holds(1, "the outer class is public, classes inside are hidden and static", tree, outer
                || nested && modifiers.contains(Modifier.STATIC)
                && !modifiers.contains(Modifier.PUBLIC) && !modifiers.contains(Modifier.PROTECTED));
        long fields = tree.getMembers().stream()
                .filter(m -> m instanceof VariableTree v && !v.getModifiers().getFlags().contains(Modifier.STATIC)).count();
        holds(11, "a class has at most twenty fields, not " + fields, tree, fields <= MOST_FIELDS);
        holds(5, "no initialiser block", tree, tree.getMembers().stream().noneMatch(m -> m.getKind() == Tree.Kind.BLOCK));
        return super.visitClass(tree, none);
    }

    @Override
    public Void visitMethod(MethodTree tree, Void none) {
        ExecutableElement around = method;
        method = (ExecutableElement) elementOf(tree);
        calls.put(method, new HashSet<>());
        holds(11, "at most seven parameters", tree, tree.getParameters().size() <= MOST_PARAMETERS);
        long end = trees.getSourcePositions().getEndPosition(unit, tree);
        long lines = unit.getLineMap().getLineNumber(end) - unit.getLineMap().getLineNumber(startOf(tree)) + 1;
        holds(11, "a method is short, not " + lines, tree, lines <= LONGEST_METHOD);
        holds(3, "the type of an answer", tree, isAllowed(method.getReturnType()));
        holds(6, "no exceptions", tree, tree.getThrows().isEmpty());
        super.visitMethod(tree, none);
        method = around;
        return null;
    }

    @Override
    public Void visitVariable(VariableTree tree, Void none) {
        VariableElement variable = (VariableElement) elementOf(tree);
        holds(3, "the type of " + tree.getName(), tree, isAllowed(variable.asType()));
        if (variable.getKind() == ElementKind.FIELD) {
            boolean plain = variable.asType().getKind().isPrimitive();
            holds(7, tree.getName() + " is never null", tree, plain || variable.getModifiers().contains(Modifier.FINAL));
        }
        if (variable.getKind() == ElementKind.FIELD && variable.getModifiers().contains(Modifier.STATIC)) {
            holds(5, "a static field is a constant", tree, variable.getConstantValue() != null);
        }
        return super.visitVariable(tree, none);
    }

    @Override
    public Void visitLiteral(LiteralTree tree, Void none) {
        holds(7, "no null", tree, tree.getKind() != Tree.Kind.NULL_LITERAL);
        return super.visitLiteral(tree, none);
    }

    @Override
    public Void visitAnnotation(AnnotationTree tree, Void none) {
        holds(4, "no annotation", tree, false);
        return super.visitAnnotation(tree, none);
    }

    private static boolean isAllowed(TypeMirror type) {
        if (type.getKind() == TypeKind.VOID || isNumber(type) || type.getKind() == TypeKind.BOOLEAN) {
            return true;
        }
        if (type instanceof ArrayType array) {
            TypeMirror part = array.getComponentType();
            boolean ofNumbers = part instanceof ArrayType inner && isNumber(inner.getComponentType());
            return ofNumbers || part.getKind() != TypeKind.ARRAY && isAllowed(part);
        }
        return isOwn(type.toString());
    }

    /** No double and no float: the class needs none. */
    private static boolean isNumber(TypeMirror type) {
        return type.getKind() == TypeKind.INT || type.getKind() == TypeKind.LONG;
    }

    private static boolean isOwn(String type) {
        return type.equals("TaintScanner") || type.startsWith("TaintScanner.");
    }

    // what is called and made

    @Override
    public Void visitMethodInvocation(MethodInvocationTree tree, Void none) {
        ExecutableElement called = (ExecutableElement) trees.getElement(getCurrentPath());
        String owner = ((TypeElement) called.getEnclosingElement()).getQualifiedName().toString();
        boolean begins = called.getKind() == ElementKind.CONSTRUCTOR;
        if (isOwn(owner)) {
            calls.get(method).add(called);
        } else {
            String name = owner + "." + called.getSimpleName();
            holds(4, "the library's " + name, tree, begins || LIBRARY.contains(name));
        }
        return super.visitMethodInvocation(tree, none);
    }

    @Override
    public Void visitNewClass(NewClassTree tree, Void none) {
        ExecutableElement called = (ExecutableElement) trees.getElement(getCurrentPath());
        String owner = ((TypeElement) called.getEnclosingElement()).getQualifiedName().toString();
        holds(2, "an object of a class inside, without a body of its own", tree, isOwn(owner) && tree.getClassBody() == null);
        if (method != null) {
            makers.add(method);
            calls.get(method).add(called);
        }
        return super.visitNewClass(tree, none);
    }

    @Override
    public Void visitNewArray(NewArrayTree tree, Void none) {
        if (method != null) {
            makers.add(method);
        }
        return super.visitNewArray(tree, none);
    }

    // what the rules leave out

    @Override
    public Void visitLambdaExpression(LambdaExpressionTree tree, Void none) {
        holds(2, "no lambda", tree, false);
        return super.visitLambdaExpression(tree, none);
    }

    @Override
    public Void visitMemberReference(MemberReferenceTree tree, Void none) {
        holds(2, "no method reference", tree, false);
        return super.visitMemberReference(tree, none);
    }

    @Override
    public Void visitThrow(ThrowTree tree, Void none) {
        holds(6, "the document asks for no exception", tree, false);
        return super.visitThrow(tree, none);
    }

    @Override
    public Void visitTry(TryTree tree, Void none) {
        holds(6, "the document asks for no exception", tree, false);
        return super.visitTry(tree, none);
    }

    @Override
    public Void visitAssert(AssertTree tree, Void none) {
        holds(6, "no assert", tree, false);
        return super.visitAssert(tree, none);
    }

    @Override
    public Void visitSynchronized(SynchronizedTree tree, Void none) {
        holds(6, "no synchronized", tree, false);
        return super.visitSynchronized(tree, none);
    }

    @Override
    public Void visitBinary(BinaryTree tree, Void none) {
        boolean compares = tree.getKind() == Tree.Kind.EQUAL_TO || tree.getKind() == Tree.Kind.NOT_EQUAL_TO;
        holds(compares ? 6 : 10, "no texts are compared or joined so", tree,
                isOperand(typeOf(tree.getLeftOperand()), compares) && isOperand(typeOf(tree.getRightOperand()), compares));
        boolean divides = tree.getKind() == Tree.Kind.DIVIDE || tree.getKind() == Tree.Kind.REMAINDER;
        if (divides) {
            holds(7, "a divisor is a constant above 0", tree, isAboveZero(tree.getRightOperand()));
        }
        return super.visitBinary(tree, none);
    }

    private static boolean isOperand(TypeMirror type, boolean compared) {
        return type.getKind().isPrimitive() || compared && isOwn(type.toString());
    }

    private boolean isAboveZero(ExpressionTree divisor) {
        if (divisor instanceof LiteralTree literal) {
            return literal.getValue() instanceof Integer n && n > 0;
        }
        return elementOf(divisor) instanceof VariableElement v && v.getConstantValue() instanceof Integer n && n > 0;
    }

    // loops

    @Override
    public Void visitForLoop(ForLoopTree tree, Void none) {
        holds(9, "a counter against a bound", tree, hasCounter(tree, tree.getCondition()));
        return super.visitForLoop(tree, none);
    }

    @Override
    public Void visitWhileLoop(WhileLoopTree tree, Void none) {
        holds(9, "a counter against a bound", tree, hasCounter(tree, tree.getCondition()));
        return super.visitWhileLoop(tree, none);
    }

    @Override
    public Void visitDoWhileLoop(DoWhileLoopTree tree, Void none) {
        holds(9, "a counter against a bound", tree, hasCounter(tree, tree.getCondition()));
        return super.visitDoWhileLoop(tree, none);
    }

    @Override
    public Void visitEnhancedForLoop(EnhancedForLoopTree tree, Void none) {
        holds(9, "a loop over an array", tree, typeOf(tree.getExpression()).getKind() == TypeKind.ARRAY);
        return super.visitEnhancedForLoop(tree, none);
    }

    /** Whether the loop ends, whatever else, when a variable that it counts up or down comes to a bound. */
    private static boolean hasCounter(Tree loop, ExpressionTree condition) {
        Set<String> counted = new HashSet<>();
        new TreeScanner<Void, Void>() {
            @Override
            public Void visitUnary(UnaryTree tree, Void none) {
                boolean up = tree.getKind() == Tree.Kind.POSTFIX_INCREMENT;
                counted.add((up ? "up " : "down ") + tree.getExpression());
                return super.visitUnary(tree, none);
            }
        }.scan(loop, null);
        for (ExpressionTree part : parts(condition)) {
            if (part instanceof BinaryTree b && b.getLeftOperand() instanceof IdentifierTree name) {
                boolean below = b.getKind() == Tree.Kind.LESS_THAN || b.getKind() == Tree.Kind.LESS_THAN_EQUAL;
                boolean above = b.getKind() == Tree.Kind.GREATER_THAN || b.getKind() == Tree.Kind.GREATER_THAN_EQUAL;
                if (below && counted.contains("up " + name) || above && counted.contains("down " + name)) {
                    return true;
                }
            }
        }
        return false;
    }

    /** The parts of a condition that must all hold. */
    private static List<ExpressionTree> parts(ExpressionTree condition) {
        List<ExpressionTree> parts = new ArrayList<>();
        if (condition instanceof ParenthesizedTree p) {
            parts.addAll(parts(p.getExpression()));
        } else if (condition instanceof BinaryTree b && b.getKind() == Tree.Kind.CONDITIONAL_AND) {
            parts.addAll(parts(b.getLeftOperand()));
            parts.addAll(parts(b.getRightOperand()));
        } else if (condition != null) {
            parts.add(condition);
        }
        return parts;
    }
}
