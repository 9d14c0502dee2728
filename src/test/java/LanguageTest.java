import com.sun.source.tree.*;
import com.sun.source.util.JavacTask;
import com.sun.source.util.SourcePositions;
import com.sun.source.util.TreePath;
import com.sun.source.util.TreePathScanner;
import com.sun.source.util.TreeScanner;
import com.sun.source.util.Trees;
import java.io.IOException;
import java.io.StringWriter;
import java.nio.file.Path;
import java.util.ArrayList;
import java.util.EnumSet;
import java.util.List;
import java.util.Map;
import java.util.Set;
import java.util.TreeMap;
import java.util.TreeSet;
import javax.lang.model.element.Modifier;
import javax.lang.model.type.TypeKind;
import javax.tools.JavaCompiler;
import javax.tools.StandardJavaFileManager;
import javax.tools.ToolProvider;

// The rules of ../shared/LANGUAGE.md, as far as they can be seen in the program's text; of rule 7 that is only the
// divisors. Where a rule leaves a choice that the program does not use, this is stricter than the rule: every loop is a
// counted for loop, every divisor a constant, and every array is made in the initialiser of a final field.
public final class LanguageTest {
    private static final String PROGRAM = "src/main/java/KindJudge.java";
    private static final int MOST_PARAMETERS = 7;
    private static final int MOST_LINES = 60;
    private static final int MOST_DEPTH = 6;
    private static final int MOST_FIELDS = 40;

    private static final Set<TypeKind> TYPES = EnumSet.of(
        TypeKind.INT, TypeKind.LONG, TypeKind.SHORT, TypeKind.BYTE, TypeKind.CHAR, TypeKind.BOOLEAN, TypeKind.VOID);

    private static final Set<Tree.Kind> LITERALS = EnumSet.of(
        Tree.Kind.INT_LITERAL, Tree.Kind.LONG_LITERAL, Tree.Kind.CHAR_LITERAL, Tree.Kind.BOOLEAN_LITERAL);

    private static final Set<Tree.Kind> REFUSED = EnumSet.of(
        Tree.Kind.THROW, Tree.Kind.TRY, Tree.Kind.CATCH, Tree.Kind.SYNCHRONIZED, Tree.Kind.ASSERT, Tree.Kind.INSTANCE_OF,
        Tree.Kind.LAMBDA_EXPRESSION, Tree.Kind.MEMBER_REFERENCE);

    private static final Set<Tree.Kind> CLASSES = EnumSet.of(
        Tree.Kind.CLASS, Tree.Kind.INTERFACE, Tree.Kind.ENUM, Tree.Kind.RECORD, Tree.Kind.ANNOTATION_TYPE);

    private static final Set<Tree.Kind> LOOPS = EnumSet.of(
        Tree.Kind.WHILE_LOOP, Tree.Kind.DO_WHILE_LOOP, Tree.Kind.ENHANCED_FOR_LOOP);

    private static final Set<Tree.Kind> STEPS = EnumSet.of(
        Tree.Kind.PREFIX_INCREMENT, Tree.Kind.PREFIX_DECREMENT, Tree.Kind.POSTFIX_INCREMENT, Tree.Kind.POSTFIX_DECREMENT);

    private static final Set<Tree.Kind> DIVISIONS = EnumSet.of(
        Tree.Kind.DIVIDE, Tree.Kind.REMAINDER, Tree.Kind.DIVIDE_ASSIGNMENT, Tree.Kind.REMAINDER_ASSIGNMENT);

    private int wrong = 0;
    private final CompilationUnitTree unit;
    private final SourcePositions positions;
    private final List<VariableTree> fields = new ArrayList<>();
    private final List<MethodTree> methods = new ArrayList<>();
    private final Set<String> constants = new TreeSet<>();
    private final Set<String> arrays = new TreeSet<>();
    private final Set<String> names = new TreeSet<>();
    private final Map<String, Set<String>> calls = new TreeMap<>();

    private LanguageTest(JavacTask task) throws IOException {
        unit = task.parse().iterator().next();
        positions = Trees.instance(task).getSourcePositions();
    }

    private void wrong(int rule, Tree where, String what) {
        wrong++;
        System.out.println("rule " + rule + ", line " + lineOf(positions.getStartPosition(unit, where)) + ": " + what);
    }

    private long lineOf(long position) {
        return unit.getLineMap().getLineNumber(Math.max(0, position));
    }

    private long lines(Tree tree) {
        return lineOf(positions.getEndPosition(unit, tree)) - lineOf(positions.getStartPosition(unit, tree)) + 1;
    }

    /** A name as it is without "this." before it. */
    private static String bare(Tree name) {
        return name.toString().replaceFirst("^this\\.", "");
    }

    // ---- The class and its members

    private void judgeUnit() {
        if (unit.getPackage() != null || !unit.getImports().isEmpty()) {
            wrong(3, unit, "a package line or an import");
        }
        if (unit.getTypeDecls().size() != 1 || !(unit.getTypeDecls().get(0) instanceof ClassTree)) {
            wrong(1, unit, "not one class");
            return;
        }
        ClassTree judge = (ClassTree) unit.getTypeDecls().get(0);
        boolean plain = judge.getKind() == Tree.Kind.CLASS && judge.getExtendsClause() == null
            && judge.getImplementsClause().isEmpty() && judge.getTypeParameters().isEmpty();
        if (!plain || !judge.getModifiers().getFlags().equals(Set.of(Modifier.PUBLIC, Modifier.FINAL))) {
            wrong(1, judge, "the class is not just public and final");
        }
        for (Tree member : judge.getMembers()) {
            if (member instanceof VariableTree field) {
                fields.add(field);
            } else if (member instanceof MethodTree method) {
                methods.add(method);
            } else {
                wrong(member instanceof ClassTree ? 1 : 5, member, "a member that is no field and no method");
            }
        }
        names.add("this");
        fields.forEach(this::judgeField);
        if (fields.size() - constants.size() > MOST_FIELDS) {
            wrong(10, judge, "more than " + MOST_FIELDS + " fields beside the constants");
        }
        methods.forEach(method -> names.add(method.getName().toString()));
        methods.forEach(this::judgeMethod);
        judgeNames();
        judgeCalls();
        new Rules().scan(unit, null);
    }

    private void judgeField(VariableTree field) {
        Set<Modifier> flags = field.getModifiers().getFlags();
        String name = field.getName().toString();
        names.add(name);
        boolean array = field.getType() instanceof ArrayTypeTree;
        if (array) {
            arrays.add(name);
            if (!flags.contains(Modifier.FINAL)) {
                wrong(4, field, name + " is an array field that could be assigned to");
            }
        }
        if (flags.contains(Modifier.STATIC)) {
            boolean whole = field.getType().toString().matches("int|long");
            if (!whole || !flags.contains(Modifier.FINAL) || !isConstant(field.getInitializer())) {
                wrong(5, field, name + " is static and no compile-time constant of int or long");
            }
            constants.add(name);
        } else if (!flags.contains(Modifier.PRIVATE)) {
            wrong(1, field, name + " is not private");
        }
    }

    private boolean isConstant(ExpressionTree value) {
        if (value instanceof ParenthesizedTree inner) {
            return isConstant(inner.getExpression());
        }
        if (value instanceof UnaryTree unary) {
            return isConstant(unary.getExpression());
        }
        if (value instanceof BinaryTree binary) {
            return isConstant(binary.getLeftOperand()) && isConstant(binary.getRightOperand());
        }
        if (value instanceof IdentifierTree name) {
            return constants.contains(name.getName().toString());
        }
        return value != null && LITERALS.contains(value.getKind());
    }

    private void judgeMethod(MethodTree method) {
        String name = method.getName().toString();
        if (method.getParameters().size() > MOST_PARAMETERS) {
            wrong(10, method, name + " takes more than " + MOST_PARAMETERS + " parameters");
        }
        if (lines(method) > MOST_LINES) {
            wrong(10, method, name + " has " + lines(method) + " lines");
        }
        if (method.getReturnType() instanceof ArrayTypeTree) {
            wrong(4, method, name + " answers an array");
        }
        if (!method.getThrows().isEmpty() || !method.getTypeParameters().isEmpty()) {
            wrong(6, method, name + " has a throws clause or a type parameter");
        }
    }

    private void judgeNames() {
        Set<String> open = new TreeSet<>();
        for (MethodTree method : methods) {
            if (method.getModifiers().getFlags().contains(Modifier.PUBLIC)) {
                open.add(method.getName().toString());
            }
        }
        for (MethodTree method : methods) {
            if (!method.getModifiers().getFlags().contains(Modifier.PUBLIC) && open.contains(method.getName().toString())) {
                wrong(1, method, method.getName() + " is also the name of a public method");
            }
        }
    }

    // ---- Who calls whom

    private void judgeCalls() {
        for (MethodTree method : methods) {
            Set<String> called = calls.computeIfAbsent(method.getName().toString(), name -> new TreeSet<>());
            new TreeScanner<Void, Void>() {
                @Override
                public Void visitMethodInvocation(MethodInvocationTree call, Void none) {
                    called.add(bare(call.getMethodSelect()));
                    return super.visitMethodInvocation(call, none);
                }
            }.scan(method, null);
        }
        for (MethodTree method : methods) {
            follow(method, method.getName().toString(), new ArrayList<>());
        }
    }

    private void follow(MethodTree first, String name, List<String> above) {
        List<String> chain = new ArrayList<>(above);
        chain.add(name);
        if (above.contains(name)) {
            wrong(8, first, "recursion: " + chain);
            return;
        }
        // The method that is called from outside counts as the first.
        if (chain.size() == MOST_DEPTH + 1) {
            wrong(10, first, "calls go too deep: " + chain);
        }
        for (String called : calls.getOrDefault(name, Set.of())) {
            follow(first, called, chain);
        }
    }

    // ---- What stands inside

    private final class Rules extends TreePathScanner<Void, Void> {
        @Override
        public Void scan(Tree tree, Void none) {
            if (tree != null && REFUSED.contains(tree.getKind())) {
                wrong(6, tree, tree.getKind() + " is refused");
            }
            if (tree != null && LOOPS.contains(tree.getKind())) {
                wrong(8, tree, "a loop that is not counted");
            }
            if (tree != null && CLASSES.contains(tree.getKind()) && tree != unit.getTypeDecls().get(0)) {
                wrong(1, tree, "another class");
            }
            return super.scan(tree, none);
        }

        @Override
        public Void visitAnnotation(AnnotationTree annotation, Void none) {
            wrong(3, annotation, "an annotation is a class of the library");
            return null;
        }

        @Override
        public Void visitVariable(VariableTree variable, Void none) {
            names.add(variable.getName().toString());
            Tree type = variable.getType();
            if (type instanceof ArrayTypeTree) {
                arrays.add(variable.getName().toString());
            }
            judgeType(variable, type instanceof ArrayTypeTree array ? array.getType() : type);
            return super.visitVariable(variable, none);
        }

        @Override
        public Void visitMethod(MethodTree method, Void none) {
            Tree type = method.getReturnType();
            if (type != null) {
                judgeType(method, type instanceof ArrayTypeTree array ? array.getType() : type);
            }
            return super.visitMethod(method, none);
        }

        private void judgeType(Tree where, Tree type) {
            if (!(type instanceof PrimitiveTypeTree plain) || !TYPES.contains(plain.getPrimitiveTypeKind())) {
                wrong(2, where, "the type " + type);
            }
        }

        @Override
        public Void visitTypeCast(TypeCastTree cast, Void none) {
            judgeType(cast, cast.getType());
            return super.visitTypeCast(cast, none);
        }

        @Override
        public Void visitLiteral(LiteralTree literal, Void none) {
            if (!LITERALS.contains(literal.getKind())) {
                wrong(literal.getKind() == Tree.Kind.NULL_LITERAL ? 4 : 2, literal, "the literal " + literal);
            }
            return null;
        }

        @Override
        public Void visitMemberSelect(MemberSelectTree select, Void none) {
            String name = select.getIdentifier().toString();
            boolean own = select.getExpression().toString().equals("this") && names.contains(name);
            boolean length = isArray(select.getExpression()) && name.equals("length");
            if (!own && !length) {
                wrong(3, select, select + " reaches out of the class");
            }
            return super.visitMemberSelect(select, none);
        }

        @Override
        public Void visitIdentifier(IdentifierTree identifier, Void none) {
            String name = identifier.getName().toString();
            // The constructor's call of Object's is not written by hand.
            if (!names.contains(name) && !name.equals("super")) {
                wrong(3, identifier, name + " is not of this class");
            }
            return null;
        }

        @Override
        public Void visitNewClass(NewClassTree made, Void none) {
            wrong(2, made, made + " makes an object");
            return super.visitNewClass(made, none);
        }

        @Override
        public Void visitNewArray(NewArrayTree made, Void none) {
            Tree above = getCurrentPath().getParentPath().getLeaf();
            if (!(above instanceof VariableTree field) || !fields.contains(field)) {
                wrong(4, made, "an array that is not made in a field's initialiser");
            }
            boolean one = made.getDimensions().size() == 1 && made.getInitializers() == null;
            if (!one || !isConstant(made.getDimensions().get(0)) || made.getDimensions().get(0).toString().equals("0")) {
                wrong(4, made, made + " has no length that is a literal or a constant");
            }
            return super.visitNewArray(made, none);
        }

        @Override
        public Void visitAssignment(AssignmentTree assignment, Void none) {
            if (isArray(assignment.getVariable())) {
                wrong(4, assignment, assignment + " changes what an array's name stands for");
            }
            return super.visitAssignment(assignment, none);
        }

        @Override
        public Void visitBinary(BinaryTree binary, Void none) {
            if (isArray(binary.getLeftOperand()) || isArray(binary.getRightOperand())) {
                wrong(4, binary, binary + " compares an array");
            }
            judgeDivisor(binary, binary.getRightOperand());
            return super.visitBinary(binary, none);
        }

        @Override
        public Void visitCompoundAssignment(CompoundAssignmentTree assignment, Void none) {
            judgeDivisor(assignment, assignment.getExpression());
            return super.visitCompoundAssignment(assignment, none);
        }

        private void judgeDivisor(Tree where, ExpressionTree right) {
            if (DIVISIONS.contains(where.getKind()) && !isConstant(right)) {
                wrong(7, where, where + " has a divisor that is no constant");
            }
        }

        private boolean isArray(Tree tree) {
            return arrays.contains(bare(tree));
        }

        @Override
        public Void visitMethodInvocation(MethodInvocationTree call, Void none) {
            for (TreePath path = getCurrentPath(); path.getParentPath() != null; path = path.getParentPath()) {
                Tree above = path.getParentPath().getLeaf();
                if (above instanceof MethodInvocationTree outer && outer.getArguments().contains(path.getLeaf())) {
                    wrong(10, call, call + " stands inside the arguments of " + outer);
                }
            }
            return super.visitMethodInvocation(call, none);
        }

        @Override
        public Void visitForLoop(ForLoopTree loop, Void none) {
            if (!isCounted(loop)) {
                wrong(8, loop, "a loop whose end can't be seen from its own lines");
            }
            return super.visitForLoop(loop, none);
        }

        /** One counter, made by the loop, looked at in its condition, stepped once and touched nowhere in its body. */
        private boolean isCounted(ForLoopTree loop) {
            if (loop.getInitializer().size() != 1 || loop.getUpdate().size() != 1 || loop.getCondition() == null
                    || !(loop.getInitializer().get(0) instanceof VariableTree counter)) {
                return false;
            }
            String name = counter.getName().toString();
            String condition = loop.getCondition().toString();
            String update = loop.getUpdate().get(0).toString().replace(";", "");
            boolean up = update.equals(name + "++") && condition.matches("\\(?" + name + " <=? .*");
            boolean down = update.equals(name + "--") && condition.matches("\\(?" + name + " >=? .*");
            boolean bounded = !condition.contains("||") && !condition.contains("?");
            return (up || down) && bounded && !changes(loop.getStatement(), name);
        }

        private boolean changes(Tree body, String name) {
            Set<String> assigned = new TreeSet<>();
            new Assigned().scan(body, assigned);
            return assigned.contains(name);
        }
    }

    /** Gathers the names that are assigned to or stepped. */
    private static final class Assigned extends TreeScanner<Void, Set<String>> {
        @Override
        public Void visitAssignment(AssignmentTree tree, Set<String> into) {
            into.add(tree.getVariable().toString());
            return super.visitAssignment(tree, into);
        }

        @Override
        public Void visitCompoundAssignment(CompoundAssignmentTree tree, Set<String> into) {
            into.add(tree.getVariable().toString());
            return super.visitCompoundAssignment(tree, into);
        }

        @Override
        public Void visitUnary(UnaryTree tree, Set<String> into) {
            if (STEPS.contains(tree.getKind())) {
                into.add(tree.getExpression().toString());
            }
            return super.visitUnary(tree, into);
        }
    }

    public static void main(String[] args) throws IOException {
        JavaCompiler compiler = ToolProvider.getSystemJavaCompiler();
        Path program = Path.of(args.length > 0 ? args[0] : PROGRAM);
        int wrong;
        try (StandardJavaFileManager files = compiler.getStandardFileManager(null, null, null)) {
            JavacTask task = (JavacTask) compiler.getTask(
                new StringWriter(), files, null, null, null, files.getJavaFileObjects(program));
            LanguageTest test = new LanguageTest(task);
            test.judgeUnit();
            wrong = test.wrong;
        }
        System.out.println(wrong == 0 ? "the rules are kept" : wrong + " times a rule is not kept");
        if (wrong != 0) {
            System.exit(1);
        }
    }
}
