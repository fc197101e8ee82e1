import com.sun.source.tree.ArrayTypeTree;
import com.sun.source.tree.AssertTree;
import com.sun.source.tree.AssignmentTree;
import com.sun.source.tree.BinaryTree;
import com.sun.source.tree.ClassTree;
import com.sun.source.tree.CompilationUnitTree;
import com.sun.source.tree.DoWhileLoopTree;
import com.sun.source.tree.ExpressionTree;
import com.sun.source.tree.ForLoopTree;
import com.sun.source.tree.IdentifierTree;
import com.sun.source.tree.InstanceOfTree;
import com.sun.source.tree.LambdaExpressionTree;
import com.sun.source.tree.LineMap;
import com.sun.source.tree.LiteralTree;
import com.sun.source.tree.MemberReferenceTree;
import com.sun.source.tree.MemberSelectTree;
import com.sun.source.tree.MethodInvocationTree;
import com.sun.source.tree.MethodTree;
import com.sun.source.tree.NewArrayTree;
import com.sun.source.tree.NewClassTree;
import com.sun.source.tree.PrimitiveTypeTree;
import com.sun.source.tree.SynchronizedTree;
import com.sun.source.tree.ThrowTree;
import com.sun.source.tree.Tree;
import com.sun.source.tree.TryTree;
import com.sun.source.tree.TypeCastTree;
import com.sun.source.tree.VariableTree;
import com.sun.source.tree.WhileLoopTree;
import com.sun.source.util.JavacTask;
import com.sun.source.util.SourcePositions;
import com.sun.source.util.TreeScanner;
import com.sun.source.util.Trees;
import java.io.IOException;
import java.lang.reflect.Method;
import java.lang.reflect.Modifier;
import java.nio.file.Path;
import java.util.HashMap;
import java.util.HashSet;
import java.util.Map;
import java.util.Set;
import java.util.TreeSet;
import javax.lang.model.type.TypeKind;
import javax.tools.JavaCompiler;
import javax.tools.StandardJavaFileManager;
import javax.tools.ToolProvider;

/** The rules of LANGUAGE.md that can be seen in the class's members and in the tree that javac makes of its source. */
public final class LanguageTest extends TreeScanner<Void, Void> {
    private static final Checks C = new Checks();
    private static final Path SOURCE = Path.of("src/main/java/RelayDesk.java");
    private static final Set<String> FACE = Set.of(
        "boolean server(int,int,int,int)", "int route(int,int)", "boolean unroute(int)",
        "boolean damage(int,boolean)", "boolean set(int,int)", "boolean limit(int,int,int)", "int advance(int)",
        "int arrive(int,int,int,int,int)", "int time()", "int state(int)", "int about(int,int)", "int at(int,int)",
        "int tokens(int)", "int queued(int)", "long total(int)", "int took(int)", "int home(int)");
    // The rules say "some sixty" and "some forty".
    private static final int LINES = 64;
    private static final int FIELDS = 44;
    private static final int DEPTH = 6;

    private final Map<String, Set<String>> calls = new HashMap<>();
    private final Set<String> methods = new HashSet<>();
    private final Set<String> arrays = new HashSet<>();
    private final Set<String> constants = new HashSet<>();
    private final CompilationUnitTree unit;
    private final SourcePositions positions;
    private String method = "";
    private int nested;
    private int insideArguments;

    private LanguageTest(CompilationUnitTree unit, SourcePositions positions) {
        this.unit = unit;
        this.positions = positions;
    }

    public static void main(String[] args) throws IOException {
        face();
        JavaCompiler compiler = ToolProvider.getSystemJavaCompiler();
        try (StandardJavaFileManager files = compiler.getStandardFileManager(null, null, null)) {
            JavacTask task = (JavacTask) compiler.getTask(null, files, null, null, null,
                files.getJavaFileObjects(SOURCE));
            CompilationUnitTree unit = task.parse().iterator().next();
            new LanguageTest(unit, Trees.instance(task).getSourcePositions()).look();
        }
        C.end();
    }

    private static void face() {
        Class<RelayDesk> type = RelayDesk.class;
        C.due("rule 1: public and final", type.getModifiers(), Modifier.PUBLIC | Modifier.FINAL);
        C.due("rule 1: constructors", type.getDeclaredConstructors().length, 1);
        C.due("rule 1: the constructor is public", type.getDeclaredConstructors()[0].getModifiers(), Modifier.PUBLIC);
        C.due("rule 1: the constructor's parameters", type.getDeclaredConstructors()[0].getParameterCount(), 0);
        Set<String> face = new TreeSet<>();
        Set<String> names = new HashSet<>();
        for (Method m : type.getDeclaredMethods()) {
            if (!Modifier.isPrivate(m.getModifiers())) {
                StringBuilder types = new StringBuilder();
                for (Class<?> t : m.getParameterTypes()) {
                    types.append(types.length() == 0 ? "" : ",").append(t.getName());
                }
                face.add(m.getReturnType().getName() + " " + m.getName() + "(" + types + ")");
                names.add(m.getName());
                C.due("rule 1: modifiers of " + m.getName(), m.getModifiers(), Modifier.PUBLIC);
            }
        }
        C.due("rule 1: the public methods " + face, face.equals(FACE), true);
        for (Method m : type.getDeclaredMethods()) {
            boolean hidden = Modifier.isPrivate(m.getModifiers());
            C.due("rule 1: private " + m.getName(), hidden && names.contains(m.getName()), false);
        }
        Set<String> fields = new TreeSet<>();
        for (java.lang.reflect.Field f : type.getDeclaredFields()) {
            if (!Modifier.isPrivate(f.getModifiers())) {
                fields.add(f.getName());
            }
        }
        C.due("rule 1: the public constants " + fields, fields.equals(Set.of("REFUSED", "FULL", "LIMITED")), true);
    }

    private void look() {
        C.due("rule 1: a package line", unit.getPackageName() == null, true);
        C.due("rule 3: imports", unit.getImports().size(), 0);
        C.due("rule 1: classes", unit.getTypeDecls().size(), 1);
        ClassTree type = (ClassTree) unit.getTypeDecls().get(0);
        int fields = 0;
        for (Tree member : type.getMembers()) {
            if (member instanceof VariableTree) {
                fields += field((VariableTree) member);
            } else if (member instanceof MethodTree) {
                methods.add(((MethodTree) member).getName().toString());
            } else {
                C.due("rules 1 and 5: a member that is neither field nor method", true, false);
            }
        }
        C.due("rule 10: " + fields + " fields", fields <= FIELDS, true);
        for (Tree member : type.getMembers()) {
            method = "";
            scan(member, null);
        }
        for (String name : calls.keySet()) {
            C.due("rule 10: calls go at most six deep from " + name, depth(name, new HashSet<>()) <= DEPTH, true);
        }
    }

    private int field(VariableTree v) {
        String name = v.getName().toString();
        boolean isStatic = v.getModifiers().getFlags().contains(javax.lang.model.element.Modifier.STATIC);
        if (!isStatic) {
            if (v.getType() instanceof ArrayTypeTree) {
                arrays.add(name);
            }
            return 1;
        }
        boolean isFinal = v.getModifiers().getFlags().contains(javax.lang.model.element.Modifier.FINAL);
        C.due("rule 5: " + name + " is final", isFinal, true);
        C.due("rule 5: " + name + " is int or long", v.getType() instanceof PrimitiveTypeTree
            && Set.of(TypeKind.INT, TypeKind.LONG).contains(((PrimitiveTypeTree) v.getType()).getPrimitiveTypeKind()),
            true);
        constants.add(name);
        return 0;
    }

    private String at(Tree tree) {
        LineMap lines = unit.getLineMap();
        return " in line " + lines.getLineNumber(positions.getStartPosition(unit, tree)) + ": ";
    }

    private void never(String rule, Tree tree) {
        C.due(rule + at(tree) + tree, true, false);
    }

    private boolean isNumber(Tree type) {
        return type instanceof PrimitiveTypeTree && !Set.of(TypeKind.FLOAT, TypeKind.DOUBLE, TypeKind.VOID)
            .contains(((PrimitiveTypeTree) type).getPrimitiveTypeKind());
    }

    @Override
    public Void visitVariable(VariableTree v, Void p) {
        Tree type = v.getType() instanceof ArrayTypeTree ? ((ArrayTypeTree) v.getType()).getType() : v.getType();
        C.due("rule 2: the type of " + v.getName(), isNumber(type), true);
        return super.visitVariable(v, p);
    }

    @Override
    public Void visitMethod(MethodTree m, Void p) {
        method = m.getName().toString();
        calls.computeIfAbsent(method, name -> new TreeSet<>());
        Tree answer = m.getReturnType();
        boolean nothing = answer == null || answer instanceof PrimitiveTypeTree
            && ((PrimitiveTypeTree) answer).getPrimitiveTypeKind() == TypeKind.VOID;
        C.due("rules 2 and 4: what " + method + " answers", nothing || isNumber(answer), true);
        C.due("rule 6: " + method + " throws", m.getThrows().size(), 0);
        C.due("rule 10: parameters of " + method, m.getParameters().size() <= 7, true);
        LineMap lines = unit.getLineMap();
        long length = lines.getLineNumber(positions.getEndPosition(unit, m))
            - lines.getLineNumber(positions.getStartPosition(unit, m)) + 1;
        C.due("rule 10: " + method + " has " + length + " lines", length <= LINES, true);
        return super.visitMethod(m, p);
    }

    @Override
    public Void visitMethodInvocation(MethodInvocationTree call, Void p) {
        C.due("rule 10: a call inside the arguments of another" + at(call) + call, insideArguments, 0);
        ExpressionTree name = call.getMethodSelect();
        if (name instanceof IdentifierTree && !name.toString().equals("super")) {
            C.due("rule 3: the class's own method" + at(call) + call, methods.contains(name.toString()), true);
            calls.get(method).add(name.toString());
        } else if (!name.toString().equals("super")) {
            never("rule 3: a call", call);
        }
        insideArguments++;
        scan(call.getArguments(), p);
        insideArguments--;
        return null;
    }

    @Override
    public Void visitMemberSelect(MemberSelectTree select, Void p) {
        boolean ofThis = select.getExpression().toString().equals("this");
        boolean lengthOfArray = select.getIdentifier().contentEquals("length");
        C.due("rules 2 and 3: " + select + at(select), ofThis || lengthOfArray, true);
        return super.visitMemberSelect(select, p);
    }

    @Override
    public Void visitNewArray(NewArrayTree made, Void p) {
        C.due("rule 4: made in a field or in the constructor" + at(made), method.isEmpty() || method.equals("<init>"),
            true);
        C.due("rule 4: made neither in a loop nor behind a condition" + at(made), nested, 0);
        boolean one = made.getInitializers() == null && made.getDimensions().size() == 1;
        C.due("rule 4: one length" + at(made), one, true);
        if (one) {
            ExpressionTree length = made.getDimensions().get(0);
            boolean literal = length instanceof LiteralTree && ((LiteralTree) length).getValue() instanceof Integer
                && (Integer) ((LiteralTree) length).getValue() >= 1;
            C.due("rule 4: the length is a literal or a constant" + at(made),
                literal || constants.contains(length.toString()), true);
        }
        return super.visitNewArray(made, p);
    }

    @Override
    public Void visitAssignment(AssignmentTree set, Void p) {
        boolean ofArray = arrays.contains(set.getVariable().toString().replace("this.", ""));
        C.due("rule 4: an array field is set" + at(set), ofArray && !method.equals("<init>"), false);
        return super.visitAssignment(set, p);
    }

    @Override
    public Void visitBinary(BinaryTree two, Void p) {
        boolean ofArrays = arrays.contains(two.getLeftOperand().toString())
            || arrays.contains(two.getRightOperand().toString());
        C.due("rule 4: an array is compared" + at(two), ofArrays, false);
        return super.visitBinary(two, p);
    }

    @Override
    public Void visitLiteral(LiteralTree literal, Void p) {
        Object value = literal.getValue();
        boolean good = value instanceof Integer || value instanceof Long || value instanceof Boolean
            || value instanceof Character;
        C.due("rules 2 and 4: the literal " + literal + at(literal), good, true);
        return null;
    }

    @Override
    public Void visitTypeCast(TypeCastTree cast, Void p) {
        C.due("rule 6: a cast" + at(cast) + cast, isNumber(cast.getType()), true);
        return super.visitTypeCast(cast, p);
    }

    @Override
    public Void visitForLoop(ForLoopTree loop, Void p) {
        C.due("rule 8: a loop with a bound" + at(loop), loop.getCondition() != null, true);
        return nest(() -> super.visitForLoop(loop, p));
    }

    @Override
    public Void visitWhileLoop(WhileLoopTree loop, Void p) {
        return nest(() -> super.visitWhileLoop(loop, p));
    }

    @Override
    public Void visitDoWhileLoop(DoWhileLoopTree loop, Void p) {
        return nest(() -> super.visitDoWhileLoop(loop, p));
    }

    @Override
    public Void visitIf(com.sun.source.tree.IfTree test, Void p) {
        return nest(() -> super.visitIf(test, p));
    }

    @Override
    public Void visitSwitch(com.sun.source.tree.SwitchTree test, Void p) {
        return nest(() -> super.visitSwitch(test, p));
    }

    @Override
    public Void visitConditionalExpression(com.sun.source.tree.ConditionalExpressionTree test, Void p) {
        return nest(() -> super.visitConditionalExpression(test, p));
    }

    private Void nest(Runnable visit) {
        nested++;
        visit.run();
        nested--;
        return null;
    }

    @Override
    public Void visitNewClass(NewClassTree made, Void p) {
        never("rule 4: an object is made", made);
        return null;
    }

    @Override
    public Void visitThrow(ThrowTree tree, Void p) {
        never("rule 6", tree);
        return null;
    }

    @Override
    public Void visitTry(TryTree tree, Void p) {
        never("rule 6", tree);
        return null;
    }

    @Override
    public Void visitSynchronized(SynchronizedTree tree, Void p) {
        never("rule 6", tree);
        return null;
    }

    @Override
    public Void visitAssert(AssertTree tree, Void p) {
        never("rule 6", tree);
        return null;
    }

    @Override
    public Void visitInstanceOf(InstanceOfTree tree, Void p) {
        never("rule 6", tree);
        return null;
    }

    @Override
    public Void visitLambdaExpression(LambdaExpressionTree tree, Void p) {
        never("rule 6", tree);
        return null;
    }

    @Override
    public Void visitMemberReference(MemberReferenceTree tree, Void p) {
        never("rule 6", tree);
        return null;
    }

    @Override
    public Void visitClass(ClassTree tree, Void p) {
        never("rule 1: a class inside a class", tree);
        return null;
    }

    private int depth(String name, Set<String> above) {
        C.due("rule 8: recursion in " + name, above.contains(name), false);
        if (above.contains(name)) {
            return 1;
        }
        Set<String> path = new HashSet<>(above);
        path.add(name);
        int deepest = 0;
        for (String callee : calls.getOrDefault(name, Set.of())) {
            deepest = Math.max(deepest, depth(callee, path));
        }
        return deepest + 1;
    }
}
