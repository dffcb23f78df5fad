import com.sun.source.tree.ArrayTypeTree;
import com.sun.source.tree.AssignmentTree;
import com.sun.source.tree.ClassTree;
import com.sun.source.tree.CompilationUnitTree;
import com.sun.source.tree.CompoundAssignmentTree;
import com.sun.source.tree.ExpressionTree;
import com.sun.source.tree.ForLoopTree;
import com.sun.source.tree.IdentifierTree;
import com.sun.source.tree.LiteralTree;
import com.sun.source.tree.MemberSelectTree;
import com.sun.source.tree.MethodInvocationTree;
import com.sun.source.tree.MethodTree;
import com.sun.source.tree.NewArrayTree;
import com.sun.source.tree.PrimitiveTypeTree;
import com.sun.source.tree.Tree;
import com.sun.source.tree.TypeCastTree;
import com.sun.source.tree.UnaryTree;
import com.sun.source.tree.VariableTree;
import com.sun.source.util.JavacTask;
import com.sun.source.util.SourcePositions;
import com.sun.source.util.TreeScanner;
import com.sun.source.util.Trees;
import java.io.File;
import java.io.IOException;
import java.util.ArrayList;
import java.util.EnumSet;
import java.util.HashMap;
import java.util.HashSet;
import java.util.List;
import java.util.Map;
import java.util.Set;
import java.util.function.Predicate;
import javax.lang.model.element.Modifier;
import javax.lang.model.type.TypeKind;
import javax.tools.JavaCompiler;
import javax.tools.StandardJavaFileManager;
import javax.tools.ToolProvider;

/**
 * The rules of LANGUAGE.md that the program's text shows, over the tree that the compiler makes of
 * it. Where a rule leaves more room than the program needs, the test is the narrower of the two.
 */
public final class LanguageTest {
    private static final String PROGRAM = "src/main/java/KeyHeap.java";
    private static final Set<TypeKind> NUMBER_TYPES = EnumSet.of(TypeKind.INT, TypeKind.LONG, TypeKind.SHORT,
            TypeKind.BYTE, TypeKind.CHAR, TypeKind.BOOLEAN);
    private static final Set<Tree.Kind> LITERALS = EnumSet.of(Tree.Kind.INT_LITERAL, Tree.Kind.LONG_LITERAL,
            Tree.Kind.CHAR_LITERAL, Tree.Kind.BOOLEAN_LITERAL);
    private static final Set<Tree.Kind> STEPS = EnumSet.of(Tree.Kind.PREFIX_INCREMENT, Tree.Kind.PREFIX_DECREMENT,
            Tree.Kind.POSTFIX_INCREMENT, Tree.Kind.POSTFIX_DECREMENT);
    private static final Set<Tree.Kind> RULED_OUT = EnumSet.of(Tree.Kind.THROW, Tree.Kind.TRY, Tree.Kind.CATCH,
            Tree.Kind.SYNCHRONIZED, Tree.Kind.ASSERT, Tree.Kind.INSTANCE_OF, Tree.Kind.LAMBDA_EXPRESSION,
            Tree.Kind.MEMBER_REFERENCE, Tree.Kind.NEW_CLASS, Tree.Kind.ANNOTATION);

    private static CompilationUnitTree file;
    private static SourcePositions positions;
    private static ClassTree program;
    private static final List<MethodTree> methods = new ArrayList<>();
    private static final List<VariableTree> fields = new ArrayList<>();

    public static void main(String[] args) throws IOException {
        read();
        Answers.sentence("1: One class", LanguageTest::oneClass);
        Answers.sentence("1: No private method bears the name of a public one", LanguageTest::privateNames);
        Answers.sentence("2: Types", LanguageTest::types);
        Answers.sentence("3: No class of the Java library", LanguageTest::onlyOwnNames);
        Answers.sentence("4: Arrays are made in a field's initialiser", LanguageTest::arraysAreMadeInFields);
        Answers.sentence("4: no method assigns to an array field", LanguageTest::arrayFieldsAreFinal);
        Answers.sentence("5: Static fields are compile-time constants", LanguageTest::staticFields);
        Answers.sentence("6: No throw, try, catch ...", LanguageTest::nothingRuledOut);
        Answers.sentence("8: Every loop has an end that can be seen", LanguageTest::loopsHaveACounterAndABound);
        Answers.sentence("8: No recursion; 10: calls go at most six deep", LanguageTest::callsGoSixDeep);
        Answers.sentence("10: at most seven parameters", LanguageTest::sevenParameters);
        Answers.sentence("10: no call stands inside the arguments of another call", LanguageTest::noCallInArguments);
        Answers.sentence("10: Methods stay short (some sixty lines)", LanguageTest::sixtyLines);
        Answers.sentence("10: at most some forty fields", LanguageTest::fortyFields);
        Answers.end();
    }

    private static void due(String what, Object got, Object want) {
        Answers.due(what, got, want);
    }

    private static void read() throws IOException {
        JavaCompiler compiler = ToolProvider.getSystemJavaCompiler();
        StandardJavaFileManager files = compiler.getStandardFileManager(null, null, null);
        JavacTask task = (JavacTask) compiler.getTask(null, files, null, null, null,
                files.getJavaFileObjects(new File(PROGRAM)));
        file = task.parse().iterator().next();
        positions = Trees.instance(task).getSourcePositions();
        program = (ClassTree) file.getTypeDecls().get(0);
        for (Tree member : program.getMembers()) {
            if (member instanceof MethodTree) {
                methods.add((MethodTree) member);
            } else if (member instanceof VariableTree) {
                fields.add((VariableTree) member);
            }
        }
    }

    private static int lineOf(Tree tree) {
        return (int) file.getLineMap().getLineNumber(positions.getStartPosition(file, tree));
    }

    private static int lastLineOf(Tree tree) {
        return (int) file.getLineMap().getLineNumber(positions.getEndPosition(file, tree));
    }

    /** All nodes of a tree of one class, itself among them. */
    private static <T extends Tree> List<T> all(Class<T> wanted, Tree root) {
        List<T> found = new ArrayList<>();
        new TreeScanner<Void, Void>() {
            @Override
            public Void scan(Tree tree, Void nothing) {
                if (wanted.isInstance(tree)) {
                    found.add(wanted.cast(tree));
                }
                return super.scan(tree, nothing);
            }
        }.scan(root, null);
        return found;
    }

    /** The lines of the nodes that a rule does not let stand. */
    private static <T extends Tree> List<Integer> linesOf(Class<T> wanted, Predicate<T> isWrong) {
        List<Integer> lines = new ArrayList<>();
        for (T tree : all(wanted, file)) {
            if (isWrong.test(tree)) {
                lines.add(lineOf(tree));
            }
        }
        return lines;
    }

    private static Set<String> namesOfMethods() {
        Set<String> names = new HashSet<>();
        for (MethodTree method : methods) {
            names.add(method.getName().toString());
        }
        return names;
    }

    private static boolean isConstant(VariableTree field) {
        return field.getModifiers().getFlags().contains(Modifier.STATIC);
    }

    private static boolean isArray(VariableTree variable) {
        return variable.getType() instanceof ArrayTypeTree;
    }

    private static void oneClass() {
        due("package line", file.getPackageName() == null, true);
        due("number of imports", file.getImports().size(), 0);
        due("number of classes, nested ones too", all(ClassTree.class, file).size(), 1);
        due("kind", program.getKind(), Tree.Kind.CLASS);
        due("name", program.getSimpleName().toString(), "KeyHeap");
        due("flags", program.getModifiers().getFlags(), EnumSet.of(Modifier.PUBLIC, Modifier.FINAL));
        due("members that are neither method nor field", program.getMembers().size() - methods.size() - fields.size(),
                0);
    }

    private static void privateNames() {
        Set<String> shown = new HashSet<>();
        Set<String> hidden = new HashSet<>();
        for (MethodTree method : methods) {
            boolean isPublic = method.getModifiers().getFlags().contains(Modifier.PUBLIC);
            (isPublic ? shown : hidden).add(method.getName().toString());
        }
        hidden.retainAll(shown);
        due("names of both", hidden, Set.of());
    }

    private static void types() {
        due("lines with a variable of another type",
                linesOf(VariableTree.class, variable -> !isNumberOrArray(variable.getType())), List.of());
        due("lines with a method that answers another type", linesOf(MethodTree.class,
                method -> method.getReturnType() != null && !isNumber(method.getReturnType())
                        && !isVoid(method.getReturnType())), List.of());
        due("lines with a literal of another type",
                linesOf(LiteralTree.class, literal -> !LITERALS.contains(literal.getKind())), List.of());
        due("lines with a float or a double", linesOf(PrimitiveTypeTree.class,
                type -> !isNumber(type) && !isVoid(type)), List.of());
    }

    private static boolean isNumber(Tree type) {
        return type instanceof PrimitiveTypeTree
                && NUMBER_TYPES.contains(((PrimitiveTypeTree) type).getPrimitiveTypeKind());
    }

    private static boolean isVoid(Tree type) {
        return type instanceof PrimitiveTypeTree
                && ((PrimitiveTypeTree) type).getPrimitiveTypeKind() == TypeKind.VOID;
    }

    private static boolean isNumberOrArray(Tree type) {
        return isNumber(type) || type instanceof ArrayTypeTree && isNumber(((ArrayTypeTree) type).getType());
    }

    /** Whatever is named stands in this file: a variable, a field or a method of its own. */
    private static void onlyOwnNames() {
        Set<String> known = new HashSet<>(Set.of("this", "super"));
        for (VariableTree variable : all(VariableTree.class, program)) {
            known.add(variable.getName().toString());
        }
        Set<String> called = namesOfMethods();
        called.remove("<init>");
        known.addAll(called);
        due("lines with another name",
                linesOf(IdentifierTree.class, name -> !known.contains(name.getName().toString())), List.of());
        due("lines with a dot that is not 'this.' or '.length'",
                linesOf(MemberSelectTree.class, select -> !isOwnSelect(select)), List.of());
    }

    private static boolean isOwnSelect(MemberSelectTree select) {
        return select.getExpression().toString().equals("this") || select.getIdentifier().contentEquals("length");
    }

    private static void arraysAreMadeInFields() {
        int inFields = 0;
        for (VariableTree field : fields) {
            if (isArray(field)) {
                boolean isMade = field.getInitializer() instanceof NewArrayTree;
                due("whether " + field.getName() + " is made in its initialiser", isMade, true);
                if (isMade) {
                    inFields++;
                    lengthIsConstant(field.getName().toString(), (NewArrayTree) field.getInitializer());
                }
            }
        }
        due("number of arrays made anywhere", all(NewArrayTree.class, file).size(), inFields);
    }

    private static void lengthIsConstant(String name, NewArrayTree made) {
        due("number of dimensions of " + name, made.getDimensions().size(), 1);
        ExpressionTree length = made.getDimensions().get(0);
        Set<String> constants = new HashSet<>();
        for (VariableTree field : fields) {
            if (isConstant(field)) {
                constants.add(field.getName().toString());
            }
        }
        boolean isLiteral = length.getKind() == Tree.Kind.INT_LITERAL;
        due("whether the length of " + name + " is constant", isLiteral || constants.contains(length.toString()), true);
    }

    /** Then the compiler lets no method assign to them. */
    private static void arrayFieldsAreFinal() {
        for (VariableTree field : fields) {
            if (isArray(field)) {
                Set<Modifier> flags = field.getModifiers().getFlags();
                due("flags of " + field.getName(), flags, EnumSet.of(Modifier.PRIVATE, Modifier.FINAL));
            }
        }
    }

    private static void staticFields() {
        for (VariableTree field : fields) {
            if (isConstant(field)) {
                String name = field.getName().toString();
                String type = field.getType().toString();
                due("whether " + name + " is final", field.getModifiers().getFlags().contains(Modifier.FINAL), true);
                due("whether " + name + " is an int or a long", type.equals("int") || type.equals("long"), true);
                due("number of calls in the value of " + name,
                        all(MethodInvocationTree.class, field.getInitializer()).size(), 0);
            }
        }
    }

    private static void nothingRuledOut() {
        due("lines with what is ruled out", linesOf(Tree.class, tree -> RULED_OUT.contains(tree.getKind())), List.of());
        due("lines with a cast of a reference", linesOf(TypeCastTree.class, cast -> !isNumber(cast.getType())),
                List.of());
    }

    /** Every loop is of the form for (int i = a; i < BOUND; i++), and its body leaves i as it is. */
    private static void loopsHaveACounterAndABound() {
        due("lines with another loop", linesOf(Tree.class, LanguageTest::isOtherLoop), List.of());
        for (ForLoopTree loop : all(ForLoopTree.class, file)) {
            String where = "line " + lineOf(loop) + ": ";
            due(where + "number of counters", loop.getInitializer().size(), 1);
            String counter = ((VariableTree) loop.getInitializer().get(0)).getName().toString();
            due(where + "step", loop.getUpdate().toString(), counter + "++;");
            String condition = String.valueOf(loop.getCondition());
            due(where + "whether " + condition + " is a bound", condition.matches(counter + " < [A-Z_]+"), true);
            due(where + "whether the body changes " + counter, changes(loop.getStatement(), counter), false);
        }
    }

    private static boolean isOtherLoop(Tree tree) {
        return tree.getKind() == Tree.Kind.WHILE_LOOP || tree.getKind() == Tree.Kind.DO_WHILE_LOOP
                || tree.getKind() == Tree.Kind.ENHANCED_FOR_LOOP;
    }

    private static boolean changes(Tree body, String name) {
        List<String> changed = new ArrayList<>();
        all(AssignmentTree.class, body).forEach(tree -> changed.add(tree.getVariable().toString()));
        all(CompoundAssignmentTree.class, body).forEach(tree -> changed.add(tree.getVariable().toString()));
        all(UnaryTree.class, body).stream().filter(tree -> STEPS.contains(tree.getKind()))
                .forEach(tree -> changed.add(tree.getExpression().toString()));
        return changed.contains(name);
    }

    /** A ring of calls is as deep as one likes, so it is found as one that is too deep. */
    private static void callsGoSixDeep() {
        Map<String, Set<String>> calls = new HashMap<>();
        for (MethodTree method : methods) {
            Set<String> called = calls.computeIfAbsent(method.getName().toString(), name -> new HashSet<>());
            for (MethodInvocationTree call : all(MethodInvocationTree.class, method)) {
                called.add(call.getMethodSelect().toString().replace("this.", ""));
            }
        }
        Set<String> atThisDepth = calls.keySet();
        for (int depth = 1; depth <= 6; depth++) {
            Set<String> deeper = new HashSet<>();
            for (String name : atThisDepth) {
                deeper.addAll(calls.getOrDefault(name, Set.of()));
            }
            atThisDepth = deeper;
        }
        due("methods that are called seven deep", atThisDepth, Set.of());
    }

    private static void sevenParameters() {
        due("lines with more parameters", linesOf(MethodTree.class, method -> method.getParameters().size() > 7),
                List.of());
    }

    private static void noCallInArguments() {
        due("lines with a call inside arguments", linesOf(MethodInvocationTree.class, LanguageTest::hasCallInside),
                List.of());
    }

    private static boolean hasCallInside(MethodInvocationTree call) {
        for (ExpressionTree argument : call.getArguments()) {
            if (!all(MethodInvocationTree.class, argument).isEmpty()) {
                return true;
            }
        }
        return false;
    }

    private static void sixtyLines() {
        due("lines with a longer method", linesOf(MethodTree.class,
                method -> lastLineOf(method) - lineOf(method) >= 60), List.of());
    }

    private static void fortyFields() {
        due("whether the fields are at most forty",
                fields.stream().filter(field -> !isConstant(field)).count() <= 40, true);
    }
}
