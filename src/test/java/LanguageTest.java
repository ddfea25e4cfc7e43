import com.sun.source.tree.ClassTree;
import com.sun.source.tree.CompilationUnitTree;
import com.sun.source.tree.ExpressionTree;
import com.sun.source.tree.ForLoopTree;
import com.sun.source.tree.MemberSelectTree;
import com.sun.source.tree.MethodInvocationTree;
import com.sun.source.tree.MethodTree;
import com.sun.source.tree.NewArrayTree;
import com.sun.source.tree.Tree;
import com.sun.source.tree.TypeCastTree;
import com.sun.source.tree.VariableTree;
import com.sun.source.util.JavacTask;
import com.sun.source.util.SourcePositions;
import com.sun.source.util.TreeScanner;
import com.sun.source.util.Trees;
import java.io.IOException;
import java.nio.file.Path;
import java.util.ArrayList;
import java.util.EnumMap;
import java.util.HashSet;
import java.util.List;
import java.util.Map;
import java.util.Set;
import java.util.TreeMap;
import java.util.TreeSet;
import java.util.regex.Pattern;
import javax.lang.model.element.Modifier;
import javax.tools.JavaCompiler;
import javax.tools.StandardJavaFileManager;
import javax.tools.ToolProvider;

/**
 * The class keeps to the rules of LANGUAGE.md that its text can show, seen through the compiler's own tree
 * of it; rule 7 is SentencesTest's. A line that is printed begins with the number of the broken rule.
 *
 * On two points it is stricter than the rules: a loop is a for with a counter that goes up to a bound, and
 * an array is made in the initialiser of a final field.
 */
public final class LanguageTest extends TreeScanner<Void, Void> {
    private static final int MOST_PARAMETERS = 7;
    private static final int MOST_LINES = 60;
    private static final int MOST_DEEP = 6;
    private static final int MOST_FIELDS = 40;
    private static final Pattern TYPE = Pattern.compile("(int|long|short|byte|char|boolean)(\\[\\])?");
    private static final Map<Tree.Kind, Integer> RULED_OUT = new EnumMap<>(Tree.Kind.class);

    static {
        ruleOut(1, Tree.Kind.CLASS, Tree.Kind.INTERFACE, Tree.Kind.ENUM, Tree.Kind.RECORD, Tree.Kind.ANNOTATION_TYPE);
        ruleOut(2, Tree.Kind.STRING_LITERAL, Tree.Kind.FLOAT_LITERAL, Tree.Kind.DOUBLE_LITERAL);
        ruleOut(3, Tree.Kind.ANNOTATION);
        ruleOut(4, Tree.Kind.NEW_CLASS, Tree.Kind.NULL_LITERAL);
        ruleOut(6, Tree.Kind.THROW, Tree.Kind.TRY, Tree.Kind.SYNCHRONIZED, Tree.Kind.ASSERT, Tree.Kind.INSTANCE_OF,
            Tree.Kind.LAMBDA_EXPRESSION, Tree.Kind.MEMBER_REFERENCE);
        ruleOut(8, Tree.Kind.WHILE_LOOP, Tree.Kind.DO_WHILE_LOOP, Tree.Kind.ENHANCED_FOR_LOOP);
    }

    private final CompilationUnitTree unit;
    private final SourcePositions positions;
    private final Map<String, MethodTree> methods = new TreeMap<>();
    private final Map<String, Set<String>> calls = new TreeMap<>();
    private final Set<String> constants = new HashSet<>();
    private final List<String> faults = new ArrayList<>();
    private String member = "";

    private LanguageTest(CompilationUnitTree unit, SourcePositions positions) {
        this.unit = unit;
        this.positions = positions;
    }

    private static void ruleOut(int rule, Tree.Kind... kinds) {
        for (Tree.Kind kind : kinds) {
            RULED_OUT.put(kind, rule);
        }
    }

    private void fault(int rule, Tree tree, String words) {
        faults.add("rule " + rule + ", line " + firstLine(tree) + ": " + words);
    }

    private long firstLine(Tree tree) {
        return unit.getLineMap().getLineNumber(positions.getStartPosition(unit, tree));
    }

    private long lastLine(Tree tree) {
        return unit.getLineMap().getLineNumber(positions.getEndPosition(unit, tree));
    }

    private static boolean isAllowed(String type) {
        return TYPE.matcher(type).matches();
    }

    private static boolean isArray(String type) {
        return type.endsWith("]");
    }

    // ---- the class and its members

    private void lookAtClass() {
        if (unit.getPackage() != null || !unit.getImports().isEmpty() || unit.getTypeDecls().size() != 1) {
            fault(1, unit, "a package line, an import or a second class");
        }
        ClassTree theClass = (ClassTree) unit.getTypeDecls().get(0);
        int fields = 0;
        for (Tree each : theClass.getMembers()) {
            if (each instanceof VariableTree field) {
                fields += takeInField(field);
            } else if (each instanceof MethodTree method) {
                takeInMethod(method);
            } else {
                fault(5, each, "a member that is no field and no method");
            }
        }
        if (fields > MOST_FIELDS) {
            fault(10, theClass, fields + " fields");
        }
        // Only now, since a method may call another one that stands below it.
        for (Tree each : theClass.getMembers()) {
            member = each instanceof MethodTree method ? method.getName().toString() : "";
            scan(each, null);
        }
    }

    /** Answers how many fields beside the constants this one is. */
    private int takeInField(VariableTree field) {
        String type = field.getType().toString();
        Set<Modifier> modifiers = field.getModifiers().getFlags();
        boolean isFinal = modifiers.contains(Modifier.FINAL);
        if (isArray(type) && (!isFinal || !(field.getInitializer() instanceof NewArrayTree))) {
            fault(4, field, "an array field that isn't final or isn't made in its initialiser");
        }
        if (!modifiers.contains(Modifier.STATIC)) {
            return 1;
        }
        constants.add(field.getName().toString());
        if (!type.equals("int") && !type.equals("long") || !isFinal || field.getInitializer() == null) {
            fault(5, field, "a static field that is no constant of int or long");
        }
        return 0;
    }

    private void takeInMethod(MethodTree method) {
        String name = method.getName().toString();
        if (methods.put(name, method) != null) {
            fault(1, method, "a second method " + name);
        }
        calls.put(name, new TreeSet<>());
    }

    // ---- what stands in them

    @Override
    public Void scan(Tree tree, Void nothing) {
        if (tree != null && RULED_OUT.containsKey(tree.getKind())) {
            fault(RULED_OUT.get(tree.getKind()), tree, tree.toString());
        }
        return super.scan(tree, nothing);
    }

    @Override
    public Void visitMethod(MethodTree tree, Void nothing) {
        if (tree.getParameters().size() > MOST_PARAMETERS) {
            fault(10, tree, member + " has too many parameters");
        }
        if (lastLine(tree) - firstLine(tree) >= MOST_LINES) {
            fault(10, tree, member + " is too long");
        }
        if (!tree.getThrows().isEmpty()) {
            fault(6, tree, member + " throws");
        }
        String answer = tree.getReturnType() == null ? "void" : tree.getReturnType().toString();
        if (!answer.equals("void") && (isArray(answer) || !isAllowed(answer))) {
            fault(isArray(answer) ? 4 : 2, tree, member + " answers " + answer);
        }
        return super.visitMethod(tree, nothing);
    }

    @Override
    public Void visitVariable(VariableTree tree, Void nothing) {
        String type = String.valueOf(tree.getType());
        if (!isAllowed(type)) {
            fault(2, tree, "the type " + type);
        }
        return super.visitVariable(tree, nothing);
    }

    @Override
    public Void visitTypeCast(TypeCastTree tree, Void nothing) {
        if (!isAllowed(tree.getType().toString())) {
            fault(6, tree, tree.toString());
        }
        return super.visitTypeCast(tree, nothing);
    }

    @Override
    public Void visitMemberSelect(MemberSelectTree tree, Void nothing) {
        if (!tree.getExpression().toString().equals("this") && !tree.getIdentifier().contentEquals("length")) {
            fault(3, tree, tree.toString());
        }
        return super.visitMemberSelect(tree, nothing);
    }

    @Override
    public Void visitNewArray(NewArrayTree tree, Void nothing) {
        boolean plain = tree.getDimensions().size() == 1 && tree.getInitializers() == null;
        String length = plain ? tree.getDimensions().get(0).toString() : "";
        if (!member.isEmpty() || !constants.contains(length) && !length.matches("[1-9][0-9]*")) {
            fault(4, tree, tree.toString());
        }
        return super.visitNewArray(tree, nothing);
    }

    // ---- loops and calls

    @Override
    public Void visitForLoop(ForLoopTree tree, Void nothing) {
        boolean oneCounter = tree.getInitializer().size() == 1 && tree.getUpdate().size() == 1;
        String counter = oneCounter && tree.getInitializer().get(0) instanceof VariableTree variable
            ? variable.getName().toString() : "?";
        String end = String.valueOf(tree.getCondition());
        boolean bounded = end.startsWith(counter + " < ") || end.startsWith(counter + " <= ");
        if (!bounded || !tree.getUpdate().get(0).toString().startsWith(counter + "++")
            || changes(tree.getStatement(), counter)) {
            fault(8, tree, "a loop whose end isn't a counter against a bound");
        }
        return super.visitForLoop(tree, nothing);
    }

    private static boolean changes(Tree body, String name) {
        String assigned = "\\b" + name + " ([-+*/%&|^]|<<|>>>?)?= ";
        String stepped = "\\b" + name + "(\\+\\+|--)|(\\+\\+|--)" + name + "\\b";
        return Pattern.compile(assigned + "|" + stepped).matcher(body.toString()).find();
    }

    @Override
    public Void visitMethodInvocation(MethodInvocationTree tree, Void nothing) {
        String called = tree.getMethodSelect().toString();
        if (member.isEmpty()) {
            fault(5, tree, "a call in the initialiser of a field");
        } else if (methods.containsKey(called)) {
            calls.get(member).add(called);
        } else {
            fault(3, tree, "a call of " + called);
        }
        for (ExpressionTree argument : tree.getArguments()) {
            if (hasCall(argument)) {
                fault(10, tree, "a call inside the arguments of " + called);
            }
        }
        return super.visitMethodInvocation(tree, nothing);
    }

    private static boolean hasCall(Tree tree) {
        boolean[] found = {false};
        new TreeScanner<Void, Void>() {
            @Override
            public Void visitMethodInvocation(MethodInvocationTree call, Void nothing) {
                found[0] = true;
                return null;
            }
        }.scan(tree, null);
        return found[0];
    }

    /** How deep the calls from a method go, itself counted; where they go in a circle, too deep at least. */
    private int depth(String from, int level) {
        int deepest = 0;
        for (String called : calls.get(from)) {
            deepest = Math.max(deepest, level > MOST_DEEP ? MOST_DEEP : depth(called, level + 1));
        }
        return 1 + deepest;
    }

    private void lookAtDepth() {
        for (String name : methods.keySet()) {
            if (depth(name, 1) > MOST_DEEP) {
                fault(10, methods.get(name), "calls from " + name + " go too deep, or in a circle (rule 8)");
            }
        }
    }

    public static void main(String[] args) throws IOException {
        JavaCompiler compiler = ToolProvider.getSystemJavaCompiler();
        try (StandardJavaFileManager files = compiler.getStandardFileManager(null, null, null)) {
            JavacTask task = (JavacTask) compiler.getTask(null, files, null, List.of("--release", "17"), null,
                files.getJavaFileObjects(Path.of("src/main/java/FlashMap.java")));
            CompilationUnitTree unit = task.parse().iterator().next();
            LanguageTest test = new LanguageTest(unit, Trees.instance(task).getSourcePositions());
            test.lookAtClass();
            test.lookAtDepth();
            test.faults.forEach(System.out::println);
            System.out.println(test.faults.isEmpty() ? "the rules are kept" : test.faults.size() + " faults");
            if (!test.faults.isEmpty()) {
                System.exit(1);
            }
        }
    }
}
