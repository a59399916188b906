import com.sun.source.tree.ArrayTypeTree;
import com.sun.source.tree.AssignmentTree;
import com.sun.source.tree.ClassTree;
import com.sun.source.tree.CompilationUnitTree;
import com.sun.source.tree.ForLoopTree;
import com.sun.source.tree.IdentifierTree;
import com.sun.source.tree.LiteralTree;
import com.sun.source.tree.MemberSelectTree;
import com.sun.source.tree.MethodInvocationTree;
import com.sun.source.tree.MethodTree;
import com.sun.source.tree.NewArrayTree;
import com.sun.source.tree.Tree;
import com.sun.source.tree.TypeCastTree;
import com.sun.source.tree.VariableTree;
import com.sun.source.util.JavacTask;
import com.sun.source.util.SourcePositions;
import com.sun.source.util.TreeScanner;
import com.sun.source.util.Trees;
import java.io.File;
import java.io.IOException;
import java.util.EnumSet;
import java.util.HashSet;
import java.util.Map;
import java.util.Set;
import java.util.TreeMap;
import java.util.TreeSet;
import javax.lang.model.element.Modifier;
import javax.tools.JavaCompiler;
import javax.tools.StandardJavaFileManager;
import javax.tools.ToolProvider;

/**
 * The text of LoadStoreQueue.java keeps to the rules of LANGUAGE.md that can be read off its syntax tree, some of
 * them more narrowly than they are written: loops are for loops with a condition and a step, arrays are final and
 * made in field initialisers. FaceTest looks at the members (rule 1); rule 7 is for the other tests.
 */
public final class LanguageTest {
    private static final File SOURCE = new File("src/main/java/LoadStoreQueue.java");
    private static final int MOST_PARAMETERS = 7;
    private static final int MOST_LINES = 60;
    private static final int MOST_DEEP = 6;
    private static final int MOST_FIELDS = 40;

    private static final Set<String> NUMBERS = Set.of("int", "long", "short", "byte", "char", "boolean");

    private static final Set<Tree.Kind> FORBIDDEN = EnumSet.of(
            Tree.Kind.PACKAGE, Tree.Kind.IMPORT, Tree.Kind.INTERFACE, Tree.Kind.ENUM, Tree.Kind.RECORD,
            Tree.Kind.THROW, Tree.Kind.TRY, Tree.Kind.CATCH, Tree.Kind.SYNCHRONIZED, Tree.Kind.ASSERT,
            Tree.Kind.INSTANCE_OF, Tree.Kind.LAMBDA_EXPRESSION, Tree.Kind.MEMBER_REFERENCE, Tree.Kind.NEW_CLASS,
            Tree.Kind.NULL_LITERAL, Tree.Kind.STRING_LITERAL, Tree.Kind.FLOAT_LITERAL, Tree.Kind.DOUBLE_LITERAL,
            Tree.Kind.WHILE_LOOP, Tree.Kind.DO_WHILE_LOOP, Tree.Kind.ENHANCED_FOR_LOOP);

    private final Checks c = new Checks();
    private final CompilationUnitTree unit;
    private final SourcePositions places;
    private final ClassTree queue;
    private final Set<String> arrays = new HashSet<>();
    private final Set<String> constants = new HashSet<>();
    private final Map<String, Set<String>> calls = new TreeMap<>();

    private LanguageTest(CompilationUnitTree unit, SourcePositions places) {
        this.unit = unit;
        this.places = places;
        this.queue = (ClassTree) unit.getTypeDecls().get(0);
    }

    public static void main(String[] args) throws IOException {
        JavaCompiler compiler = ToolProvider.getSystemJavaCompiler();
        try (StandardJavaFileManager files = compiler.getStandardFileManager(null, null, null)) {
            JavacTask task = (JavacTask) compiler.getTask(null, files, null, null, null,
                    files.getJavaFileObjects(SOURCE));
            CompilationUnitTree unit = task.parse().iterator().next();
            new LanguageTest(unit, Trees.instance(task).getSourcePositions()).run();
        }
    }

    private void run() {
        c.due("classes", unit.getTypeDecls().size(), 1);
        fields();
        methods();
        new Reader().scan(unit, "");
        for (String method : calls.keySet()) {
            no("calls more than " + MOST_DEEP + " deep, or recursion, from " + method, depth(method, 1) > MOST_DEEP);
        }
        c.end();
    }

    private void no(String what, boolean found) {
        c.same(what, found ? "found" : "none", "none");
    }

    private long line(long position) {
        return unit.getLineMap().getLineNumber(position);
    }

    private String at(Tree tree) {
        return " in line " + line(places.getStartPosition(unit, tree));
    }

    private void fields() {
        int own = 0;
        for (Tree member : queue.getMembers()) {
            if (member instanceof VariableTree) {
                VariableTree field = (VariableTree) member;
                Set<Modifier> flags = field.getModifiers().getFlags();
                own += flags.contains(Modifier.STATIC) ? 0 : 1;
                if (flags.contains(Modifier.STATIC)) {
                    constant(field);
                } else if (field.getType() instanceof ArrayTypeTree) {
                    arrays.add(field.getName().toString());
                    no("an array that is not final or not made at once" + at(field),
                            !flags.contains(Modifier.FINAL) || !(field.getInitializer() instanceof NewArrayTree));
                }
            }
        }
        no("more than " + MOST_FIELDS + " fields", own > MOST_FIELDS);
    }

    private void constant(VariableTree field) {
        constants.add(field.getName().toString());
        String type = field.getType().toString();
        no("a static field that is no constant of int or long" + at(field),
                !field.getModifiers().getFlags().contains(Modifier.FINAL)
                || !type.equals("int") && !type.equals("long"));
    }

    private void methods() {
        for (Tree member : queue.getMembers()) {
            if (member instanceof MethodTree) {
                MethodTree method = (MethodTree) member;
                no("a second method of the name" + at(method),
                        calls.put(method.getName().toString(), new TreeSet<>()) != null);
                no("too many parameters" + at(method), method.getParameters().size() > MOST_PARAMETERS);
                no("an array that is answered" + at(method), method.getReturnType() instanceof ArrayTypeTree);
                long first = line(places.getStartPosition(unit, method));
                no("a long method" + at(method), line(places.getEndPosition(unit, method)) - first >= MOST_LINES);
            } else {
                no("a member that is neither field nor method" + at(member), !(member instanceof VariableTree));
            }
        }
    }

    /** A recursion counts as deeper than is allowed. */
    private int depth(String method, int above) {
        int deepest = above;
        if (above <= MOST_DEEP) {
            for (String called : calls.getOrDefault(method, Set.of())) {
                deepest = Math.max(deepest, depth(called, above + 1));
            }
        }
        return deepest;
    }

    /** Goes through the whole text; what it is given is the name of the method it is in, or "" outside of all. */
    private final class Reader extends TreeScanner<Void, String> {
        @Override
        public Void scan(Tree tree, String method) {
            if (tree != null) {
                no(tree.getKind() + at(tree), FORBIDDEN.contains(tree.getKind()));
            }
            return super.scan(tree, method);
        }

        @Override
        public Void visitMethod(MethodTree tree, String outside) {
            return super.visitMethod(tree, tree.getName().toString());
        }

        @Override
        public Void visitVariable(VariableTree tree, String method) {
            Tree type = tree.getType() instanceof ArrayTypeTree
                    ? ((ArrayTypeTree) tree.getType()).getType() : tree.getType();
            no("a type that is no number" + at(tree), type == null || !NUMBERS.contains(type.toString()));
            return super.visitVariable(tree, method);
        }

        @Override
        public Void visitTypeCast(TypeCastTree tree, String method) {
            no("a cast to what is no number" + at(tree), !NUMBERS.contains(tree.getType().toString()));
            return super.visitTypeCast(tree, method);
        }

        @Override
        public Void visitNewArray(NewArrayTree tree, String method) {
            boolean fixed = tree.getInitializers() == null && tree.getDimensions().size() == 1
                    && (tree.getDimensions().get(0) instanceof LiteralTree
                    || constants.contains(tree.getDimensions().get(0).toString()));
            no("an array that is not made in a field, with a constant length" + at(tree), !method.isEmpty() || !fixed);
            return super.visitNewArray(tree, method);
        }

        @Override
        public Void visitMemberSelect(MemberSelectTree tree, String method) {
            boolean length = arrays.contains(tree.getExpression().toString())
                    && tree.getIdentifier().contentEquals("length");
            no("a member of something else" + at(tree), !tree.getExpression().toString().equals("this") && !length);
            return super.visitMemberSelect(tree, method);
        }

        @Override
        public Void visitIdentifier(IdentifierTree tree, String method) {
            String name = tree.getName().toString();
            no("a name of another class" + at(tree),
                    Character.isUpperCase(name.charAt(0)) && !constants.contains(name));
            return super.visitIdentifier(tree, method);
        }

        @Override
        public Void visitAssignment(AssignmentTree tree, String method) {
            no("an array put in place of another" + at(tree), arrays.contains(tree.getVariable().toString()));
            return super.visitAssignment(tree, method);
        }

        @Override
        public Void visitForLoop(ForLoopTree tree, String method) {
            no("a loop without a bound or a step" + at(tree),
                    tree.getCondition() == null || tree.getUpdate().size() != 1);
            return super.visitForLoop(tree, method);
        }

        @Override
        public Void visitMethodInvocation(MethodInvocationTree tree, String method) {
            String called = tree.getMethodSelect().toString();
            no("a call of another class: " + called + at(tree), !calls.containsKey(called));
            calls.get(method).add(called);
            for (Tree argument : tree.getArguments()) {
                new NoCalls().scan(argument, null);
            }
            return super.visitMethodInvocation(tree, method);
        }
    }

    private final class NoCalls extends TreeScanner<Void, Void> {
        @Override
        public Void visitMethodInvocation(MethodInvocationTree tree, Void nothing) {
            no("a call inside the arguments of a call" + at(tree), true);
            return null;
        }
    }
}
