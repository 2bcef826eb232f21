import com.sun.source.tree.*;
import com.sun.source.util.JavacTask;
import com.sun.source.util.SourcePositions;
import com.sun.source.util.TreeScanner;
import com.sun.source.util.Trees;
import java.io.IOException;
import java.lang.reflect.Constructor;
import java.lang.reflect.Field;
import java.lang.reflect.Method;
import java.lang.reflect.Modifier;
import java.nio.file.Files;
import java.nio.file.Path;
import java.util.ArrayDeque;
import java.util.Arrays;
import java.util.Deque;
import java.util.HashMap;
import java.util.HashSet;
import java.util.List;
import java.util.Map;
import java.util.Set;
import java.util.TreeSet;
import javax.tools.JavaCompiler;
import javax.tools.StandardJavaFileManager;
import javax.tools.ToolProvider;

/** The document's face and those rules of LANGUAGE.md that a look at the source can tell. */
public final class RulesTests {
    private static final Tally TALLY = new Tally("rules");
    private static final String[] FACE = {
        "posts 1", "road 3", "isRoad 2", "targets 1", "weigh 2", "add 1", "change 2", "drop 1", "set 1", "rank 2",
        "free 2", "base 2", "circuit 2", "flat 2", "shut 2", "loops 2", "round 3", "swap 4", "steps 1", "less 4",
        "heaviest 2", "alike 2", "cut 1", "reach 1", "partners 1", "turned 0", "strict 0", "spare 1", "room 1",
        "idle 0", "small 0", "row 2", "lose 1", "put 3", "get 2", "copy 5", "film 4", "judge 3", "feed 1", "wipe 0",
        "read 0", "spelled 1", "image 0", "undo 0", "count 1"
    };
    private static final Set<String> CONSTANTS =
        Set.of("NONE", "BAD", "STATE", "FULL", "NOT", "MISSING", "PLACE", "BELOW");

    private RulesTests() {
    }

    public static void main(String[] args) throws IOException {
        face();
        source(Path.of(args[0]));
        TALLY.end();
    }

    private static void face() {
        TALLY.isSo("the class is public and final", Modifier.isPublic(RoadLinks.class.getModifiers())
            && Modifier.isFinal(RoadLinks.class.getModifiers()));
        Constructor<?>[] constructors = RoadLinks.class.getDeclaredConstructors();
        TALLY.due("constructors", constructors.length, 1);
        TALLY.isSo("it is public", Modifier.isPublic(constructors[0].getModifiers()));
        Set<String> methods = new TreeSet<>();
        Set<String> closed = new HashSet<>();
        for (Method m : RoadLinks.class.getDeclaredMethods()) {
            if (Modifier.isPrivate(m.getModifiers())) {
                closed.add(m.getName());
                continue;
            }
            methods.add(m.getName() + " " + m.getParameterCount());
            boolean plain = Arrays.stream(m.getParameterTypes()).allMatch(type -> type == int.class);
            Class<?> answer = m.getName().equals("get") ? long.class : int.class;
            TALLY.isSo(m + " is of the face", plain && m.getReturnType() == answer
                && m.getModifiers() == Modifier.PUBLIC);
            TALLY.isSo(m.getName() + " throws nothing", m.getExceptionTypes().length == 0);
        }
        TALLY.dueText("methods", methods.toString(), new TreeSet<>(List.of(FACE)).toString());
        for (String name : FACE) {
            String bare = name.substring(0, name.indexOf(' '));
            TALLY.isSo("no private method is named " + bare, !closed.contains(bare));
        }
        fields();
    }

    private static void fields() {
        int constants = Modifier.PUBLIC | Modifier.STATIC | Modifier.FINAL;
        for (Field f : RoadLinks.class.getDeclaredFields()) {
            boolean isFace = CONSTANTS.contains(f.getName());
            TALLY.isSo("field " + f.getName(), isFace
                ? f.getModifiers() == constants && f.getType() == int.class
                : Modifier.isPrivate(f.getModifiers()));
        }
        for (Class<?> c : RoadLinks.class.getDeclaredClasses()) {
            TALLY.isSo(c + " is static and not public", Modifier.isStatic(c.getModifiers())
                && !Modifier.isPublic(c.getModifiers()) && !Modifier.isProtected(c.getModifiers()));
        }
    }

    private static void source(Path file) throws IOException {
        JavaCompiler compiler = ToolProvider.getSystemJavaCompiler();
        try (StandardJavaFileManager files = compiler.getStandardFileManager(null, null, null)) {
            JavacTask task = (JavacTask) compiler.getTask(null, files, null, null, null, files.getJavaFileObjects(file));
            Look look = new Look(Trees.instance(task).getSourcePositions());
            for (CompilationUnitTree unit : task.parse()) {
                TALLY.due("imports", unit.getImports().size(), 0);
                TALLY.isSo("no package", unit.getPackage() == null);
                look.unit = unit;
                look.scan(unit, null);
            }
            TALLY.isSo("twelve classes at most", look.classes <= 12);
            TALLY.isSo("no call leads back, eight deep at most: " + look.deepest(), look.deepest() <= 8);
        }
        String text = Files.readString(file);
        TALLY.isSo("signs 1 to 127", text.chars().allMatch(sign -> sign >= 1 && sign <= 127));
    }

    /** A walk over the source that tells what the rules forbid. */
    private static final class Look extends TreeScanner<Void, Void> {
        private static final Set<Tree.Kind> FORBIDDEN = Set.of(
            Tree.Kind.THROW, Tree.Kind.TRY, Tree.Kind.CATCH, Tree.Kind.SYNCHRONIZED, Tree.Kind.ASSERT,
            Tree.Kind.LAMBDA_EXPRESSION, Tree.Kind.MEMBER_REFERENCE, Tree.Kind.SWITCH_EXPRESSION,
            Tree.Kind.INSTANCE_OF, Tree.Kind.YIELD);
        private static final Set<String> LIBRARY =
            Set.of("System.arraycopy", "Integer.bitCount", "Math.min", "Math.max");
        private static final Set<String> LIBRARY_CLASSES =
            Set.of("System", "Integer", "Long", "Math", "Arrays", "List", "Short", "Byte", "Character", "Double");

        private final SourcePositions places;
        private final Deque<String> methods = new ArrayDeque<>();
        private final Map<String, Set<String>> calls = new HashMap<>();
        private CompilationUnitTree unit;
        private int classes = 0;

        Look(SourcePositions places) {
            this.places = places;
        }

        @Override
        public Void scan(Tree tree, Void none) {
            if (tree != null && FORBIDDEN.contains(tree.getKind())) {
                TALLY.isSo(tree.getKind() + " is not written: " + tree, false);
            }
            return super.scan(tree, none);
        }

        @Override
        public Void visitClass(ClassTree tree, Void none) {
            classes++;
            long fields = tree.getMembers().stream().filter(Look::isOwnField).count();
            TALLY.isSo(tree.getSimpleName() + " has twenty fields at most", fields <= 20);
            boolean outer = tree.getModifiers().getFlags().contains(javax.lang.model.element.Modifier.PUBLIC);
            TALLY.isSo(tree.getSimpleName() + " is public, or static inside",
                outer || tree.getModifiers().getFlags().contains(javax.lang.model.element.Modifier.STATIC));
            for (Tree member : tree.getMembers()) {
                TALLY.isSo("no initialiser block", member.getKind() != Tree.Kind.BLOCK);
                if (member instanceof VariableTree) isFinalIfStatic((VariableTree) member);
            }
            return super.visitClass(tree, none);
        }

        private static boolean isOwnField(Tree member) {
            return member instanceof VariableTree && !isStatic((VariableTree) member);
        }

        private static boolean isStatic(VariableTree field) {
            return field.getModifiers().getFlags().contains(javax.lang.model.element.Modifier.STATIC);
        }

        private static void isFinalIfStatic(VariableTree field) {
            if (!isStatic(field)) return;
            TALLY.isSo(field.getName() + " is final",
                field.getModifiers().getFlags().contains(javax.lang.model.element.Modifier.FINAL));
            String type = field.getType().toString();
            TALLY.isSo(field.getName() + " is a constant", Set.of("int", "long", "boolean", "char", "String", "long[]",
                "int[]", "char[]", "byte[]").contains(type));
        }

        @Override
        public Void visitMethod(MethodTree tree, Void none) {
            String name = tree.getName().toString();
            TALLY.isSo(name + " takes seven parameters at most", tree.getParameters().size() <= 7);
            TALLY.isSo(name + " throws nothing", tree.getThrows().isEmpty());
            long first = unit.getLineMap().getLineNumber(places.getStartPosition(unit, tree));
            long last = unit.getLineMap().getLineNumber(places.getEndPosition(unit, tree));
            TALLY.isSo(name + " has sixty lines at most", last - first < 60);
            methods.push(name);
            calls.putIfAbsent(name, new HashSet<>());
            super.visitMethod(tree, none);
            methods.pop();
            return null;
        }

        @Override
        public Void visitMethodInvocation(MethodInvocationTree tree, Void none) {
            String called = tree.getMethodSelect().toString();
            if (!methods.isEmpty()) calls.get(methods.peek()).add(called.substring(called.lastIndexOf('.') + 1));
            return super.visitMethodInvocation(tree, none);
        }

        @Override
        public Void visitMemberSelect(MemberSelectTree tree, Void none) {
            if (LIBRARY_CLASSES.contains(tree.getExpression().toString())) {
                TALLY.isSo(tree + " is of the library used", LIBRARY.contains(tree.toString()));
            }
            return super.visitMemberSelect(tree, none);
        }

        @Override
        public Void visitNewArray(NewArrayTree tree, Void none) {
            TALLY.isSo("arrays are made with the object: " + tree, methods.isEmpty());
            return super.visitNewArray(tree, none);
        }

        @Override
        public Void visitNewClass(NewClassTree tree, Void none) {
            TALLY.isSo("objects are made with the object: " + tree, methods.isEmpty() && tree.getClassBody() == null);
            TALLY.isSo("nothing of the object is handed out: " + tree, tree.getArguments().isEmpty());
            return super.visitNewClass(tree, none);
        }

        /** By the names of methods alone: one that several classes have stands for all of them. */
        int deepest() {
            int deepest = 0;
            for (String name : calls.keySet()) deepest = Math.max(deepest, depth(name, 1));
            return deepest;
        }

        private int depth(String name, int depth) {
            int deepest = depth;
            if (depth > 20) return depth;
            for (String called : calls.getOrDefault(name, Set.of())) deepest = Math.max(deepest, depth(called, depth + 1));
            return deepest;
        }
    }
}
