import com.sun.source.tree.ArrayAccessTree;
import com.sun.source.tree.ArrayTypeTree;
import com.sun.source.tree.AssignmentTree;
import com.sun.source.tree.BinaryTree;
import com.sun.source.tree.ClassTree;
import com.sun.source.tree.CompilationUnitTree;
import com.sun.source.tree.CompoundAssignmentTree;
import com.sun.source.tree.ExpressionStatementTree;
import com.sun.source.tree.ExpressionTree;
import com.sun.source.tree.ForLoopTree;
import com.sun.source.tree.IdentifierTree;
import com.sun.source.tree.LiteralTree;
import com.sun.source.tree.MethodInvocationTree;
import com.sun.source.tree.MethodTree;
import com.sun.source.tree.NewArrayTree;
import com.sun.source.tree.PrimitiveTypeTree;
import com.sun.source.tree.Tree;
import com.sun.source.tree.Tree.Kind;
import com.sun.source.tree.UnaryTree;
import com.sun.source.tree.VariableTree;
import com.sun.source.util.JavacTask;
import com.sun.source.util.SourcePositions;
import com.sun.source.util.TreeScanner;
import com.sun.source.util.Trees;
import java.io.IOException;
import java.io.UncheckedIOException;
import java.nio.file.Path;
import java.util.ArrayList;
import java.util.EnumSet;
import java.util.HashMap;
import java.util.HashSet;
import java.util.List;
import java.util.Map;
import java.util.Set;
import java.util.stream.Collectors;
import javax.lang.model.element.Modifier;
import javax.lang.model.type.TypeKind;
import javax.tools.JavaCompiler;
import javax.tools.StandardJavaFileManager;
import javax.tools.ToolProvider;

// The source of the class keeps to the rules of LANGUAGE.md, as far as they can be seen in it. Where a
// rule leaves more room than the class needs, the narrower form that the class has is asked for, since
// it is the simpler one to look for. That no call throws (rule 7) is StateTest's; rules 9 and 11 allow
// things, or follow from there being no library.
public final class LanguageTest extends Check {
    private static final Path SOURCE = Path.of("src/main/java/AclInherit.java");
    private static final int MOST_PARAMETERS = 7;
    private static final int MOST_LINES_OF_A_METHOD = 60;
    private static final int MOST_CALLS_DEEP = 6;
    private static final int MOST_FIELDS = 40;

    private static final Set<TypeKind> NUMBERS = EnumSet.of(TypeKind.INT, TypeKind.LONG, TypeKind.SHORT,
        TypeKind.BYTE, TypeKind.CHAR, TypeKind.BOOLEAN);
    private static final Set<Kind> LITERALS = EnumSet.of(Kind.INT_LITERAL, Kind.LONG_LITERAL,
        Kind.CHAR_LITERAL, Kind.BOOLEAN_LITERAL);
    private static final Set<Kind> RULED_OUT = EnumSet.of(Kind.THROW, Kind.TRY, Kind.CATCH,
        Kind.SYNCHRONIZED, Kind.ASSERT, Kind.INSTANCE_OF, Kind.LAMBDA_EXPRESSION, Kind.MEMBER_REFERENCE,
        Kind.TYPE_CAST, Kind.NEW_CLASS, Kind.MEMBER_SELECT, Kind.PARAMETERIZED_TYPE, Kind.ANNOTATION,
        Kind.TYPE_PARAMETER);

    private static final CompilationUnitTree UNIT;
    private static final SourcePositions POSITIONS;

    static {
        JavaCompiler compiler = ToolProvider.getSystemJavaCompiler();
        StandardJavaFileManager files = compiler.getStandardFileManager(null, null, null);
        JavacTask task = (JavacTask) compiler.getTask(null, files, null, null, null, files.getJavaFileObjects(SOURCE));
        try {
            UNIT = task.parse().iterator().next();
        } catch (IOException e) {
            throw new UncheckedIOException(e);
        }
        POSITIONS = Trees.instance(task).getSourcePositions();
    }

    private static ClassTree theClass() {
        return (ClassTree) UNIT.getTypeDecls().get(0);
    }

    /** All nodes of this form at or below the root. */
    private static <T extends Tree> List<T> nodes(Tree root, Class<T> form) {
        List<T> found = new ArrayList<>();
        new TreeScanner<Void, Void>() {
            @Override
            public Void scan(Tree node, Void nothing) {
                if (form.isInstance(node)) {
                    found.add(form.cast(node));
                }
                return super.scan(node, nothing);
            }
        }.scan(root, null);
        return found;
    }

    private static <T extends Tree> List<T> members(Class<T> form) {
        return theClass().getMembers().stream().filter(form::isInstance).map(form::cast).toList();
    }

    private static boolean is(VariableTree field, Modifier modifier) {
        return field.getModifiers().getFlags().contains(modifier);
    }

    private static boolean isArray(VariableTree variable) {
        return variable.getType() instanceof ArrayTypeTree;
    }

    private static boolean isNumber(Tree type) {
        return type instanceof PrimitiveTypeTree p && NUMBERS.contains(p.getPrimitiveTypeKind());
    }

    private static long line(Tree node) {
        return UNIT.getLineMap().getLineNumber(POSITIONS.getStartPosition(UNIT, node));
    }

    private static String at(Tree node) {
        return "line " + line(node) + ": " + node + ": ";
    }

    private static Set<String> names(List<VariableTree> variables) {
        return variables.stream().map(v -> v.getName().toString()).collect(Collectors.toSet());
    }

    private static Set<String> arrayFields() {
        return names(members(VariableTree.class).stream().filter(LanguageTest::isArray).toList());
    }

    private static Map<String, Long> constants() {
        Map<String, Long> values = new HashMap<>();
        for (VariableTree field : members(VariableTree.class)) {
            if (is(field, Modifier.STATIC) && field.getInitializer() instanceof LiteralTree literal
                && literal.getValue() instanceof Number value) {
                values.put(field.getName().toString(), value.longValue());
            }
        }
        return values;
    }

    // Rule 1

    private static void rule01OneClassAndNothingElse() {
        due("there is a package line", UNIT.getPackage() != null, false);
        due("types in the file", UNIT.getTypeDecls().size(), 1);
        due("classes in the file", nodes(UNIT, ClassTree.class).size(), 1);
        due("it is AclInherit", theClass().getSimpleName().contentEquals("AclInherit"), true);
        Set<Modifier> wanted = EnumSet.of(Modifier.PUBLIC, Modifier.FINAL);
        due("it is public and final", theClass().getModifiers().getFlags().equals(wanted), true);
        due("it extends a class", theClass().getExtendsClause() != null, false);
        due("interfaces it implements", theClass().getImplementsClause().size(), 0);
    }

    private static void rule01PublicOrPrivateMembers() {
        for (VariableTree field : members(VariableTree.class)) {
            due(at(field) + "public or private", is(field, Modifier.PUBLIC) != is(field, Modifier.PRIVATE), true);
        }
        Set<String> shown = new HashSet<>();
        Set<String> hidden = new HashSet<>();
        for (MethodTree method : members(MethodTree.class)) {
            Set<Modifier> flags = method.getModifiers().getFlags();
            String name = method.getName().toString();
            due(name + " is public or private",
                flags.contains(Modifier.PUBLIC) != flags.contains(Modifier.PRIVATE), true);
            due(name + " is " + flags + " and nothing else",
                EnumSet.of(Modifier.PUBLIC, Modifier.PRIVATE, Modifier.STATIC).containsAll(flags), true);
            due(name + " is there once", (flags.contains(Modifier.PUBLIC) ? shown : hidden).add(name), true);
        }
        hidden.retainAll(shown);
        due("private methods with the name of a public one: " + hidden, hidden.size(), 0);
    }

    // Rule 2

    private static void rule02NumbersAndArraysOfThem() {
        for (VariableTree variable : nodes(UNIT, VariableTree.class)) {
            Tree type = variable.getType() instanceof ArrayTypeTree array ? array.getType() : variable.getType();
            due(at(variable) + "a number or an array of numbers", isNumber(type), true);
        }
        for (MethodTree method : members(MethodTree.class)) {
            Tree type = method.getReturnType();
            boolean answersNothing = type == null || type.toString().equals("void");
            due(method.getName() + " answers nothing or a number", answersNothing || isNumber(type), true);
        }
        for (LiteralTree literal : nodes(UNIT, LiteralTree.class)) {
            due(at(literal) + "a number", LITERALS.contains(literal.getKind()), true);
        }
    }

    // Rules 3 and 6

    private static void rule03And06WhatIsRuledOut() {
        due("imports", UNIT.getImports().size(), 0);
        for (Tree node : nodes(UNIT, Tree.class)) {
            due(at(node) + "is not ruled out", RULED_OUT.contains(node.getKind()), false);
        }
        for (MethodTree method : members(MethodTree.class)) {
            due(method.getName() + " names exceptions", method.getThrows().size(), 0);
        }
    }

    private static void rule03OnlyNamesOfItsOwn() {
        Set<String> own = names(nodes(UNIT, VariableTree.class));
        members(MethodTree.class).forEach(method -> own.add(method.getName().toString()));
        for (IdentifierTree used : nodes(UNIT, IdentifierTree.class)) {
            due(at(used) + "a name of its own", own.contains(used.getName().toString()), true);
        }
    }

    // Rule 4

    private static void rule04ArraysAreMadeInFields() {
        Set<NewArrayTree> inFields = new HashSet<>();
        for (VariableTree field : members(VariableTree.class)) {
            if (isArray(field)) {
                due(at(field) + "private and final", is(field, Modifier.PRIVATE) && is(field, Modifier.FINAL), true);
                due(at(field) + "is made", field.getInitializer() instanceof NewArrayTree, true);
                inFields.add((NewArrayTree) field.getInitializer());
            }
        }
        for (NewArrayTree made : nodes(UNIT, NewArrayTree.class)) {
            due(at(made) + "in a field", inFields.contains(made), true);
            due(at(made) + "without values", made.getInitializers() == null, true);
            due(at(made) + "has one length", made.getDimensions().size(), 1);
            String length = made.getDimensions().get(0).toString();
            long value = length.matches("\\d+") ? Long.parseLong(length) : constants().getOrDefault(length, 0L);
            due(at(made) + "a constant length of 1 or more", value >= 1, true);
        }
    }

    private static void rule04ArraysAreOnlyLookedInto() {
        Set<Tree> lookedInto = new HashSet<>();
        nodes(UNIT, ArrayAccessTree.class).forEach(access -> lookedInto.add(access.getExpression()));
        Set<String> arrays = arrayFields();
        for (IdentifierTree used : nodes(UNIT, IdentifierTree.class)) {
            if (arrays.contains(used.getName().toString())) {
                due(at(used) + "is looked into", lookedInto.contains(used), true);
            }
        }
        for (MethodTree method : members(MethodTree.class)) {
            for (VariableTree local : nodes(method, VariableTree.class)) {
                due(at(local) + "is no array", isArray(local), false);
            }
        }
    }

    // Rule 5

    private static void rule05StaticFieldsAreConstants() {
        for (VariableTree field : members(VariableTree.class)) {
            if (is(field, Modifier.STATIC)) {
                due(at(field) + "is final", is(field, Modifier.FINAL), true);
                boolean whole = field.getType().toString().matches("int|long");
                due(at(field) + "is an int or long", whole, true);
                boolean plain = field.getInitializer() != null
                    && nodes(field.getInitializer(), ExpressionTree.class).stream().allMatch(
                        part -> part instanceof LiteralTree || part.getKind() == Kind.UNARY_MINUS);
                due(at(field) + "is a plain number", plain, true);
            }
        }
        int named = members(VariableTree.class).size() + members(MethodTree.class).size();
        due("members that are neither fields nor methods", theClass().getMembers().size() - named, 0);
    }

    // Rule 7

    private static void rule07NothingIsDivided() {
        Set<Kind> divides = EnumSet.of(Kind.DIVIDE, Kind.REMAINDER, Kind.DIVIDE_ASSIGNMENT,
            Kind.REMAINDER_ASSIGNMENT);
        for (Tree node : nodes(UNIT, Tree.class)) {
            due(at(node) + "does not divide", divides.contains(node.getKind()), false);
        }
    }

    // Rule 8

    private static Set<String> calledBy(MethodTree method) {
        return nodes(method, MethodInvocationTree.class).stream()
            .map(call -> call.getMethodSelect().toString()).collect(Collectors.toSet());
    }

    /** How many methods stand on one another at most, from each method on; MAX for one in a ring. */
    private static Map<String, Integer> depths() {
        Map<String, Integer> depths = new HashMap<>();
        boolean more = true;
        while (more) {
            more = false;
            for (MethodTree method : members(MethodTree.class)) {
                String name = method.getName().toString();
                Set<String> called = calledBy(method);
                if (!depths.containsKey(name) && depths.keySet().containsAll(called)) {
                    depths.put(name, 1 + called.stream().mapToInt(depths::get).max().orElse(0));
                    more = true;
                }
            }
        }
        members(MethodTree.class).forEach(method -> depths.putIfAbsent(method.getName().toString(), MAX));
        return depths;
    }

    private static void rule08And10NoRecursionAndCallsNotTooDeep() {
        depths().forEach((name, depth) -> due(name + " goes " + depth + " deep at most " + MOST_CALLS_DEEP,
            depth <= MOST_CALLS_DEEP, true));
    }

    private static Set<String> changedIn(Tree body) {
        Set<String> changed = names(nodes(body, VariableTree.class));
        new TreeScanner<Void, Void>() {
            @Override
            public Void visitAssignment(AssignmentTree node, Void nothing) {
                changed.add(node.getVariable().toString());
                return super.visitAssignment(node, nothing);
            }

            @Override
            public Void visitCompoundAssignment(CompoundAssignmentTree node, Void nothing) {
                changed.add(node.getVariable().toString());
                return super.visitCompoundAssignment(node, nothing);
            }

            @Override
            public Void visitUnary(UnaryTree node, Void nothing) {
                changed.add(node.getExpression().toString());
                return super.visitUnary(node, nothing);
            }
        }.scan(body, null);
        return changed;
    }

    private static boolean countsUpToABound(ForLoopTree loop) {
        if (loop.getInitializer().size() != 1 || loop.getUpdate().size() != 1
            || !(loop.getInitializer().get(0) instanceof VariableTree counter)
            || !(loop.getCondition() instanceof BinaryTree condition)) {
            return false;
        }
        String name = counter.getName().toString();
        String bound = condition.getRightOperand().toString();
        ExpressionStatementTree update = loop.getUpdate().get(0);
        Set<String> changed = changedIn(loop.getStatement());
        Set<String> fields = names(members(VariableTree.class));
        return condition.getKind() == Kind.LESS_THAN
            && condition.getLeftOperand().toString().equals(name)
            && condition.getRightOperand() instanceof IdentifierTree
            && (constants().containsKey(bound) || !fields.contains(bound))
            && update.getExpression().getKind() == Kind.POSTFIX_INCREMENT
            && update.getExpression().toString().equals(name + "++")
            && !changed.contains(name) && !changed.contains(bound);
    }

    private static void rule08EveryLoopCountsUpToABound() {
        Set<Kind> others = EnumSet.of(Kind.WHILE_LOOP, Kind.DO_WHILE_LOOP, Kind.ENHANCED_FOR_LOOP);
        for (Tree node : nodes(UNIT, Tree.class)) {
            due(at(node) + "is no loop of another form", others.contains(node.getKind()), false);
        }
        for (ForLoopTree loop : nodes(UNIT, ForLoopTree.class)) {
            due("line " + line(loop) + ": the loop counts up to a bound", countsUpToABound(loop), true);
        }
    }

    // Rule 10

    private static void rule10SmallMethodsAndFewFields() {
        for (MethodTree method : members(MethodTree.class)) {
            long end = UNIT.getLineMap().getLineNumber(POSITIONS.getEndPosition(UNIT, method));
            due(method.getName() + " is short", end - line(method) < MOST_LINES_OF_A_METHOD, true);
            due(method.getName() + " takes few parameters", method.getParameters().size() <= MOST_PARAMETERS, true);
        }
        long fields = members(VariableTree.class).stream().filter(field -> !is(field, Modifier.STATIC)).count();
        due("fields beside the constants: " + fields, fields <= MOST_FIELDS, true);
    }

    private static void rule10NoCallInsideTheArgumentsOfAnother() {
        for (MethodInvocationTree call : nodes(UNIT, MethodInvocationTree.class)) {
            for (ExpressionTree argument : call.getArguments()) {
                due(at(call) + "no call inside", nodes(argument, MethodInvocationTree.class).size(), 0);
            }
        }
    }

    public static void main(String[] args) {
        runAll(LanguageTest.class);
    }
}
