import com.sun.source.tree.ArrayAccessTree;
import com.sun.source.tree.AssertTree;
import com.sun.source.tree.AssignmentTree;
import com.sun.source.tree.BinaryTree;
import com.sun.source.tree.BlockTree;
import com.sun.source.tree.ClassTree;
import com.sun.source.tree.CompoundAssignmentTree;
import com.sun.source.tree.DoWhileLoopTree;
import com.sun.source.tree.ExpressionTree;
import com.sun.source.tree.ForLoopTree;
import com.sun.source.tree.IdentifierTree;
import com.sun.source.tree.ImportTree;
import com.sun.source.tree.InstanceOfTree;
import com.sun.source.tree.LambdaExpressionTree;
import com.sun.source.tree.LiteralTree;
import com.sun.source.tree.MemberReferenceTree;
import com.sun.source.tree.MethodInvocationTree;
import com.sun.source.tree.MethodTree;
import com.sun.source.tree.NewArrayTree;
import com.sun.source.tree.NewClassTree;
import com.sun.source.tree.ParenthesizedTree;
import com.sun.source.tree.SynchronizedTree;
import com.sun.source.tree.ThrowTree;
import com.sun.source.tree.Tree;
import com.sun.source.tree.TryTree;
import com.sun.source.tree.TypeCastTree;
import com.sun.source.tree.UnaryTree;
import com.sun.source.tree.VariableTree;
import com.sun.source.tree.WhileLoopTree;
import com.sun.source.util.TreePath;
import com.sun.source.util.TreePathScanner;
import java.io.IOException;
import java.nio.file.Path;
import java.util.ArrayList;
import java.util.HashMap;
import java.util.HashSet;
import java.util.LinkedHashMap;
import java.util.List;
import java.util.Map;
import java.util.Set;
import java.util.TreeSet;
import javax.lang.model.element.Element;
import javax.lang.model.element.ElementKind;
import javax.lang.model.element.ExecutableElement;
import javax.lang.model.element.Modifier;
import javax.lang.model.element.VariableElement;
import javax.lang.model.type.ArrayType;
import javax.lang.model.type.TypeKind;
import javax.lang.model.type.TypeMirror;

/**
 * The rules of LANGUAGE.md, read off the class's source as the compiler sees it. The
 * class needs less than they allow, so some are held more strictly here: no text is
 * joined, nothing is thrown or caught, no object is made but in a constructor.
 */
public final class LanguageTest extends TreePathScanner<Void, Void> {
    private static final Map<String, Set<String>> LIBRARY = Map.of(
        "java.lang.Math", Set.of("max", "min", "abs", "floorDiv", "floorMod"),
        "java.lang.Integer", Set.of("rotateLeft", "bitCount", "compare", "max", "min"),
        "java.lang.Long", Set.of("compare", "max", "min"),
        "java.util.Arrays", Set.of("fill", "copyOf", "copyOfRange"),
        "java.lang.String", Set.of("length", "charAt", "isEmpty", "indexOf", "substring", "toCharArray"));
    private static final Set<TypeKind> NUMBERS = Set.of(TypeKind.INT, TypeKind.LONG, TypeKind.SHORT, TypeKind.BYTE,
        TypeKind.CHAR, TypeKind.DOUBLE, TypeKind.FLOAT);
    private static final Set<TypeKind> CONSTANTS = Set.of(TypeKind.INT, TypeKind.LONG, TypeKind.BOOLEAN, TypeKind.CHAR);
    private static final Set<TypeKind> CONSTANT_ROWS = Set.of(TypeKind.INT, TypeKind.LONG, TypeKind.CHAR, TypeKind.BYTE);
    private static final Set<Tree.Kind> ON_DOUBLES = Set.of(Tree.Kind.PLUS, Tree.Kind.MINUS, Tree.Kind.MULTIPLY,
        Tree.Kind.DIVIDE, Tree.Kind.LESS_THAN, Tree.Kind.LESS_THAN_EQUAL, Tree.Kind.GREATER_THAN,
        Tree.Kind.GREATER_THAN_EQUAL, Tree.Kind.EQUAL_TO, Tree.Kind.NOT_EQUAL_TO);
    /** Divisors that are no constants, each looked at by hand: why it is never 0 stands behind it. */
    private static final Map<String, String> DIVISORS = Map.of(
        "even", "tested to be above 0 in the line ahead",
        "h + 1", "a rest by 30, which is never below 0, and 1",
        "unit", "1 at first, then only multiplied by 10, below 100000000",
        "left", "the loop goes on only while it is above 0");

    private static final int MOST_PARAMETERS = 7, MOST_LINES = 60, MOST_DEPTH = 8, MOST_CLASSES = 12, MOST_FIELDS = 20;

    private final Source source;
    private final Map<String, Set<String>> calls = new LinkedHashMap<>();
    private final Set<String> face = new TreeSet<>();
    private int classes;
    private int loops;
    private int divisions;

    private LanguageTest(Source source) {
        this.source = source;
    }

    public static void main(String[] args) throws IOException {
        LanguageTest test = new LanguageTest(new Source(Path.of(args.length > 0 ? args[0] : "src/main/java/AlmanacHouse.java")));
        test.scan(test.source.unit, null);
        test.onlyOneClassOutside();
        test.callsEnd();
        Due.yes("loops, divisions, calls and classes were looked at",
            test.loops > 20 && test.divisions > 20 && test.face.size() == 38 && test.classes > 1);
        Due.end("LanguageTest");
    }

    private void holds(int rule, String what, Tree tree, boolean holds) {
        Due.yes("rule " + rule + ", line " + source.line(tree) + ": " + what, holds);
    }

    private TypeMirror typeOf(Tree tree) {
        return source.trees.getTypeMirror(new TreePath(getCurrentPath(), tree));
    }

    private Element elementOf(Tree tree) {
        return source.trees.getElement(new TreePath(getCurrentPath(), tree));
    }

    // ---- 1, 2, 13: the file, its classes

    private void onlyOneClassOutside() {
        holds(1, "no package", source.unit, source.unit.getPackageName() == null);
        Due.is("rule 1: classes outside", source.unit.getTypeDecls().size(), 1);
        Due.yes("rule 11: " + classes + " classes", classes <= MOST_CLASSES);
    }

    @Override
    public Void visitImport(ImportTree tree, Void none) {
        holds(13, tree.toString(), tree, tree.getQualifiedIdentifier().toString().equals("java.util.Arrays"));
        return super.visitImport(tree, none);
    }

    @Override
    public Void visitClass(ClassTree tree, Void none) {
        classes++;
        Set<Modifier> modifiers = tree.getModifiers().getFlags();
        boolean outside = getCurrentPath().getParentPath().getLeaf() == source.unit;
        if (outside) {
            holds(1, "public and final", tree, modifiers.containsAll(Set.of(Modifier.PUBLIC, Modifier.FINAL)));
        } else {
            holds(2, "a static class of the class itself", tree, modifiers.contains(Modifier.STATIC)
                && getCurrentPath().getParentPath().getLeaf().getKind() == Tree.Kind.CLASS);
            holds(1, "not open", tree, !modifiers.contains(Modifier.PUBLIC) && !modifiers.contains(Modifier.PROTECTED));
        }
        int fields = 0;
        for (Tree member : tree.getMembers()) {
            boolean field = member instanceof VariableTree;
            fields += field && !((VariableTree) member).getModifiers().getFlags().contains(Modifier.STATIC) ? 1 : 0;
            holds(5, "no initialiser block", member, !(member instanceof BlockTree));
        }
        holds(11, fields + " fields", tree, fields <= MOST_FIELDS);
        return super.visitClass(tree, none);
    }

    @Override
    public Void visitLambdaExpression(LambdaExpressionTree tree, Void none) {
        holds(2, "no lambda", tree, false);
        return null;
    }

    @Override
    public Void visitMemberReference(MemberReferenceTree tree, Void none) {
        holds(2, "no method reference", tree, false);
        return null;
    }

    // ---- 3, 5: types, fields

    private static boolean isOwn(TypeMirror type) {
        return type.toString().startsWith("AlmanacHouse");
    }

    private static boolean isAllowed(TypeMirror type) {
        if (type.getKind() == TypeKind.ARRAY) {
            TypeMirror of = ((ArrayType) type).getComponentType();
            boolean twice = of.getKind() == TypeKind.ARRAY && NUMBERS.contains(((ArrayType) of).getComponentType().getKind());
            return of.getKind().isPrimitive() || isOwn(of) || twice;
        }
        return type.getKind().isPrimitive() || isOwn(type) || type.toString().equals("java.lang.String")
            || type.toString().equals("java.lang.StringBuilder");
    }

    @Override
    public Void visitVariable(VariableTree tree, Void none) {
        VariableElement variable = (VariableElement) source.trees.getElement(getCurrentPath());
        TypeMirror type = variable.asType();
        holds(3, tree + " is of a listed type", tree, isAllowed(type));
        if (variable.getKind() == ElementKind.FIELD) {
            Set<Modifier> modifiers = variable.getModifiers();
            if (modifiers.contains(Modifier.STATIC)) {
                constant(tree, type, modifiers);
            } else {
                holds(7, tree + " is never null", tree, type.getKind().isPrimitive() || modifiers.contains(Modifier.FINAL));
            }
        }
        return super.visitVariable(tree, none);
    }

    private void constant(VariableTree tree, TypeMirror type, Set<Modifier> modifiers) {
        holds(5, tree + " is final", tree, modifiers.contains(Modifier.FINAL));
        boolean one = CONSTANTS.contains(type.getKind()) || type.toString().equals("java.lang.String");
        if (type.getKind() == TypeKind.ARRAY) {
            NewArrayTree row = tree.getInitializer() instanceof NewArrayTree ? (NewArrayTree) tree.getInitializer() : null;
            holds(5, tree + " is written out", tree, row != null && row.getInitializers() != null
                && CONSTANT_ROWS.contains(((ArrayType) type).getComponentType().getKind()));
        } else {
            holds(5, tree + " is a constant", tree, one && tree.getInitializer() != null);
        }
    }

    @Override
    public Void visitLiteral(LiteralTree tree, Void none) {
        Object value = tree.getValue();
        holds(7, "no null", tree, value != null);
        if (value instanceof String text) {
            holds(4, "signs of a text", tree, text.chars().allMatch(c -> c >= 1 && c <= 127));
        }
        if (value instanceof Character sign) {
            holds(3, "a sign", tree, sign <= 255);
        }
        return super.visitLiteral(tree, none);
    }

    // ---- 4, 6: calls, exceptions

    @Override
    public Void visitMethodInvocation(MethodInvocationTree tree, Void none) {
        ExecutableElement called = (ExecutableElement) source.trees.getElement(getCurrentPath());
        String owner = called.getEnclosingElement().toString();
        String name = called.getSimpleName().toString();
        if (owner.startsWith("AlmanacHouse")) {
            keepCall(called);
        } else if (!name.equals("<init>")) {
            holds(4, owner + "." + name + " is listed", tree, LIBRARY.getOrDefault(owner, Set.of()).contains(name));
            for (ExpressionTree argument : tree.getArguments()) {
                TypeKind kind = typeOf(argument).getKind();
                holds(3, "no call of the library on doubles", tree, kind != TypeKind.DOUBLE && kind != TypeKind.FLOAT);
                Element handed = elementOf(argument);
                holds(5, "the library gets no constant row", tree, kind != TypeKind.ARRAY
                    || handed != null && !handed.getModifiers().contains(Modifier.STATIC));
            }
        }
        return super.visitMethodInvocation(tree, none);
    }

    @Override
    public Void visitThrow(ThrowTree tree, Void none) {
        holds(6, "the document wants no exception", tree, false);
        return null;
    }

    @Override
    public Void visitTry(TryTree tree, Void none) {
        holds(6, "nothing is thrown, so nothing is caught", tree, false);
        return null;
    }

    @Override
    public Void visitSynchronized(SynchronizedTree tree, Void none) {
        holds(6, "not synchronized", tree, false);
        return null;
    }

    @Override
    public Void visitAssert(AssertTree tree, Void none) {
        holds(6, "no assert", tree, false);
        return null;
    }

    @Override
    public Void visitInstanceOf(InstanceOfTree tree, Void none) {
        holds(6, "no instanceof is needed", tree, false);
        return null;
    }

    @Override
    public Void visitTypeCast(TypeCastTree tree, Void none) {
        holds(7, tree + " is a cast among numbers", tree, typeOf(tree.getType()).getKind().isPrimitive());
        return super.visitTypeCast(tree, none);
    }

    // ---- 3, 5, 7, 10: reckoning

    @Override
    public Void visitBinary(BinaryTree tree, Void none) {
        TypeMirror left = typeOf(tree.getLeftOperand());
        TypeMirror right = typeOf(tree.getRightOperand());
        boolean doubles = isFloating(left) || isFloating(right);
        holds(3, tree + " on doubles", tree, !doubles || ON_DOUBLES.contains(tree.getKind()));
        holds(10, tree + " joins no texts", tree, left.getKind().isPrimitive() && right.getKind().isPrimitive());
        boolean divides = tree.getKind() == Tree.Kind.DIVIDE || tree.getKind() == Tree.Kind.REMAINDER;
        if (divides) {
            isDivisor(tree.getRightOperand());
        }
        return super.visitBinary(tree, none);
    }

    @Override
    public Void visitCompoundAssignment(CompoundAssignmentTree tree, Void none) {
        holds(10, tree + " joins no texts", tree, typeOf(tree.getVariable()).getKind().isPrimitive());
        if (tree.getKind() == Tree.Kind.DIVIDE_ASSIGNMENT || tree.getKind() == Tree.Kind.REMAINDER_ASSIGNMENT) {
            isDivisor(tree.getExpression());
        }
        isNoConstantRow(tree, tree.getVariable());
        return super.visitCompoundAssignment(tree, none);
    }

    private static boolean isFloating(TypeMirror type) {
        return type.getKind() == TypeKind.DOUBLE || type.getKind() == TypeKind.FLOAT;
    }

    private void isDivisor(ExpressionTree tree) {
        ExpressionTree bare = tree instanceof ParenthesizedTree ? ((ParenthesizedTree) tree).getExpression() : tree;
        divisions++;
        Double value = constantValue(bare);
        holds(7, bare + " divides and is never 0", tree, value != null ? value != 0 : DIVISORS.containsKey(bare.toString()));
    }

    private Double constantValue(ExpressionTree tree) {
        if (tree instanceof LiteralTree literal) {
            return literal.getValue() instanceof Number number ? number.doubleValue() : null;
        }
        Element element = elementOf(tree);
        boolean named = element instanceof VariableElement;
        Object value = named ? ((VariableElement) element).getConstantValue() : null;
        return value instanceof Number number ? number.doubleValue() : null;
    }

    @Override
    public Void visitAssignment(AssignmentTree tree, Void none) {
        isNoConstantRow(tree, tree.getVariable());
        return super.visitAssignment(tree, none);
    }

    @Override
    public Void visitUnary(UnaryTree tree, Void none) {
        isNoConstantRow(tree, tree.getExpression());
        return super.visitUnary(tree, none);
    }

    private void isNoConstantRow(Tree tree, ExpressionTree changed) {
        if (changed instanceof ArrayAccessTree place) {
            Element row = source.trees.getElement(new TreePath(new TreePath(getCurrentPath(), place), place.getExpression()));
            holds(5, tree + " changes no constant", tree, row != null && !row.getModifiers().contains(Modifier.STATIC));
        }
    }

    // ---- 9: loops

    private void hasEnd(Tree tree, ExpressionTree condition) {
        loops++;
        holds(9, "a loop has a condition", tree, condition != null && !condition.toString().contains("true"));
    }

    @Override
    public Void visitForLoop(ForLoopTree tree, Void none) {
        hasEnd(tree, tree.getCondition());
        return super.visitForLoop(tree, none);
    }

    @Override
    public Void visitWhileLoop(WhileLoopTree tree, Void none) {
        hasEnd(tree, tree.getCondition());
        return super.visitWhileLoop(tree, none);
    }

    @Override
    public Void visitDoWhileLoop(DoWhileLoopTree tree, Void none) {
        hasEnd(tree, tree.getCondition());
        return super.visitDoWhileLoop(tree, none);
    }

    // ---- 1, 8, 11, 12: methods, and what they call and make

    private static String nameOf(ExecutableElement method) {
        return method.getEnclosingElement() + "." + method;
    }

    /** The method or constructor in which the scan is, or null where a field gets its first value. */
    private TreePath around() {
        TreePath path = getCurrentPath();
        while (path != null && !(path.getLeaf() instanceof MethodTree)) {
            path = path.getParentPath();
        }
        return path;
    }

    private void keepCall(ExecutableElement called) {
        TreePath caller = around();
        holds(12, "a field's first value calls no method", getCurrentPath().getLeaf(), caller != null);
        if (caller != null) {
            calls.get(nameOf((ExecutableElement) source.trees.getElement(caller))).add(nameOf(called));
        }
    }

    private boolean inConstructor() {
        TreePath maker = around();
        return maker == null || ((MethodTree) maker.getLeaf()).getReturnType() == null;
    }

    @Override
    public Void visitMethod(MethodTree tree, Void none) {
        ExecutableElement method = (ExecutableElement) source.trees.getElement(getCurrentPath());
        calls.putIfAbsent(nameOf(method), new HashSet<>());
        boolean ofFace = method.getModifiers().contains(Modifier.PUBLIC) && method.getKind() == ElementKind.METHOD;
        if (ofFace) {
            face.add(nameOf(method));
        }
        holds(11, tree.getName() + " takes at most seven", tree, tree.getParameters().size() <= MOST_PARAMETERS);
        long lines = source.lastLine(tree) - source.line(tree) + 1;
        holds(11, tree.getName() + " has " + lines + " lines", tree, lines <= MOST_LINES);
        holds(6, tree.getName() + " throws nothing", tree, tree.getThrows().isEmpty());
        return super.visitMethod(tree, none);
    }

    @Override
    public Void visitNewClass(NewClassTree tree, Void none) {
        holds(12, tree + " is made in a constructor", tree, inConstructor());
        holds(4, tree + " is of an own class", tree, isOwn(typeOf(tree.getIdentifier())) && tree.getClassBody() == null);
        keepCall((ExecutableElement) source.trees.getElement(getCurrentPath()));
        return super.visitNewClass(tree, none);
    }

    @Override
    public Void visitNewArray(NewArrayTree tree, Void none) {
        holds(12, tree + " is made in a constructor", tree, inConstructor());
        return super.visitNewArray(tree, none);
    }

    @Override
    public Void visitIdentifier(IdentifierTree tree, Void none) {
        boolean itself = tree.getName().contentEquals("this");
        holds(12, "an object hands out nothing of itself", tree, !itself
            || getCurrentPath().getParentPath().getLeaf().getKind() == Tree.Kind.MEMBER_SELECT);
        return super.visitIdentifier(tree, none);
    }

    /** No method comes back to itself, and from the face on calls go at most eight deep. */
    private void callsEnd() {
        Map<String, Integer> depths = new HashMap<>();
        for (String method : calls.keySet()) {
            int depth = depth(method, List.of(), depths);
            Due.yes("rule 11: from " + method + " on calls go " + depth + " deep", depth <= MOST_DEPTH);
        }
    }

    private int depth(String method, List<String> above, Map<String, Integer> depths) {
        if (above.contains(method)) {
            Due.yes("rule 8: no way leads back to " + method + " by " + above, false);
            return 0;
        }
        if (!depths.containsKey(method)) {
            List<String> way = new ArrayList<>(above);
            way.add(method);
            int below = 0;
            for (String next : calls.getOrDefault(method, Set.of())) {
                below = Math.max(below, depth(next, way, depths));
            }
            depths.put(method, below + 1);
        }
        return depths.get(method);
    }
}
