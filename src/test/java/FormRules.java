import com.sun.source.tree.*;
import com.sun.source.util.JavacTask;
import com.sun.source.util.SourcePositions;
import com.sun.source.util.TreeScanner;
import com.sun.source.util.Trees;
import java.io.File;
import java.lang.reflect.Constructor;
import java.lang.reflect.Field;
import java.lang.reflect.Method;
import java.lang.reflect.Modifier;
import java.util.ArrayList;
import java.util.Arrays;
import java.util.HashMap;
import java.util.HashSet;
import java.util.List;
import java.util.Map;
import java.util.Set;
import java.util.TreeSet;
import javax.tools.JavaCompiler;
import javax.tools.StandardJavaFileManager;
import javax.tools.ToolProvider;

/** The rules of LANGUAGE.md that can be read off the source, and the public face read off the class. */
public final class FormRules {
    private static final String SOURCE = "src/main/java/RoomRings.java";
    private static final Set<String> FACE = new TreeSet<>(Arrays.asList(
        "feed(int)", "hostel()", "fault()", "told(int)", "person(int,int)", "likes(int,int)", "room(int,int)",
        "like(int,int,int)", "strike(int,int)", "lot(int,int)", "refuse(int)", "moved()", "leave(int)", "drift(int)",
        "undo(int)", "otherwise(int,int)", "odds(int,int)", "quiet(int,int)", "see(int,boolean)", "couldBe()", "ask()",
        "write(int,int)", "judge()", "tear()", "seed(int)", "keep(int)", "goBack(int)"));
    /** Kinds of the language that rules 2, 5 and 6 leave out. */
    private static final Set<Tree.Kind> BANNED = new HashSet<>(Arrays.asList(
        Tree.Kind.THROW, Tree.Kind.TRY, Tree.Kind.CATCH, Tree.Kind.SYNCHRONIZED, Tree.Kind.ASSERT,
        Tree.Kind.LAMBDA_EXPRESSION, Tree.Kind.MEMBER_REFERENCE, Tree.Kind.IMPORT, Tree.Kind.PACKAGE));
    /** What is called of the library; all else that is called must be in the file. */
    private static final Set<String> LIBRARY = new HashSet<>(Arrays.asList(
        "Math.min", "Math.max", "Integer.bitCount", "System.arraycopy"));

    private FormRules() {
    }

    public static void main(String[] args) throws Exception {
        face();
        JavaCompiler compiler = ToolProvider.getSystemJavaCompiler();
        try (StandardJavaFileManager files = compiler.getStandardFileManager(null, null, null)) {
            JavacTask task = (JavacTask) compiler.getTask(null, files, null, null, null,
                files.getJavaFileObjects(new File(SOURCE)));
            Scan scan = new Scan(Trees.instance(task).getSourcePositions());
            for (CompilationUnitTree unit : task.parse()) {
                scan.unit = unit;
                scan.scan(unit, null);
            }
            scan.finish();
        }
        Checks.end();
    }

    private static void face() {
        Class<?> c = RoomRings.class;
        Checks.sound("public final class", Modifier.isPublic(c.getModifiers()) && Modifier.isFinal(c.getModifiers()));
        Set<String> methods = new TreeSet<>();
        Set<String> names = new HashSet<>();
        for (Method m : c.getDeclaredMethods()) {
            if (Modifier.isPublic(m.getModifiers())) {
                methods.add(signature(m));
                names.add(m.getName());
                Checks.sound(m + " answers int", m.getReturnType() == int.class);
            }
        }
        Checks.same("the methods", methods.toString(), FACE.toString());
        for (Method m : c.getDeclaredMethods()) {
            boolean hidden = Modifier.isPrivate(m.getModifiers()) || m.isSynthetic();
            Checks.sound(m + " is of the face or private", Modifier.isPublic(m.getModifiers()) || hidden);
            Checks.sound(m + " has a name of its own", !hidden || !names.contains(m.getName()));
        }
        Set<String> fields = new TreeSet<>();
        for (Field f : c.getDeclaredFields()) {
            boolean open = Modifier.isPublic(f.getModifiers());
            if (open) {
                fields.add(f.getName());
            }
            Checks.sound(f + " is a constant of the face or private", open || Modifier.isPrivate(f.getModifiers()));
            Checks.sound(f + " is final", Modifier.isFinal(f.getModifiers()));
        }
        Checks.same("the constants", fields.toString(), "[FULL, NONE, NOT, OUTSIDE, UNKNOWN]");
        Constructor<?>[] made = c.getDeclaredConstructors();
        Checks.sound("one public constructor", made.length == 1 && Modifier.isPublic(made[0].getModifiers())
            && made[0].getParameterCount() == 0);
        for (Class<?> inner : c.getDeclaredClasses()) {
            Checks.sound(inner + " is static", Modifier.isStatic(inner.getModifiers()));
            for (Method m : inner.getDeclaredMethods()) {
                Checks.sound(m + " has a name of its own", !names.contains(m.getName()));
            }
        }
        Checks.sound("some twelve classes", c.getDeclaredClasses().length < 12);
    }

    private static String signature(Method m) {
        List<String> types = new ArrayList<>();
        for (Class<?> t : m.getParameterTypes()) {
            types.add(t.getName());
        }
        return m.getName() + "(" + String.join(",", types) + ")";
    }

    /** Goes once over the tree; calls are told by name and number of arguments, which is enough here. */
    private static final class Scan extends TreeScanner<Void, Void> {
        private final SourcePositions positions;
        private final Map<String, Set<String>> calls = new HashMap<>();
        private CompilationUnitTree unit;
        private String method = null;

        Scan(SourcePositions positions) {
            this.positions = positions;
        }

        @Override
        public Void scan(Tree tree, Void v) {
            if (tree != null) {
                Checks.sound(tree.getKind() + " at line " + line(tree) + " is of the language",
                    !BANNED.contains(tree.getKind()));
            }
            return super.scan(tree, v);
        }

        private long line(Tree tree) {
            return unit.getLineMap().getLineNumber(Math.max(0, positions.getStartPosition(unit, tree)));
        }

        @Override
        public Void visitMethod(MethodTree m, Void v) {
            method = m.getName() + "/" + m.getParameters().size();
            calls.computeIfAbsent(method, k -> new HashSet<>());
            long lines = unit.getLineMap().getLineNumber(positions.getEndPosition(unit, m)) - line(m) + 1;
            Checks.sound(method + " is short: " + lines, lines <= 60);
            Checks.sound(method + " takes at most seven", m.getParameters().size() <= 7);
            super.visitMethod(m, v);
            method = null;
            return null;
        }

        @Override
        public Void visitMethodInvocation(MethodInvocationTree call, Void v) {
            ExpressionTree called = call.getMethodSelect();
            String name = called instanceof MemberSelectTree
                ? ((MemberSelectTree) called).getIdentifier().toString() : called.toString();
            if (!LIBRARY.contains(called.toString()) && !name.equals("super") && method != null) {
                calls.get(method).add(name + "/" + call.getArguments().size());
            }
            return super.visitMethodInvocation(call, v);
        }

        @Override
        public Void visitClass(ClassTree c, Void v) {
            int fields = 0;
            for (Tree member : c.getMembers()) {
                if (member instanceof VariableTree) {
                    VariableTree field = (VariableTree) member;
                    boolean fixed = field.getModifiers().getFlags().contains(javax.lang.model.element.Modifier.STATIC);
                    fields += fixed ? 0 : 1;
                    Checks.sound(field.getName() + " is final if static", !fixed
                        || field.getModifiers().getFlags().contains(javax.lang.model.element.Modifier.FINAL));
                }
                Checks.sound("no initialiser block", !(member instanceof BlockTree));
            }
            Checks.sound(c.getSimpleName() + " has some twenty fields", fields <= 20);
            return super.visitClass(c, v);
        }

        @Override
        public Void visitBinary(BinaryTree b, Void v) {
            boolean text = b.getLeftOperand().getKind() == Tree.Kind.STRING_LITERAL
                || b.getRightOperand().getKind() == Tree.Kind.STRING_LITERAL;
            Checks.sound("no text joined by + at line " + line(b), !text);
            return super.visitBinary(b, v);
        }

        void finish() {
            for (Map.Entry<String, Set<String>> e : calls.entrySet()) {
                for (String called : e.getValue()) {
                    Checks.sound(e.getKey() + " calls " + called + ", which is in the file", calls.containsKey(called));
                }
            }
            for (String name : calls.keySet()) {
                int depth = depth(name, new ArrayList<>());
                Checks.sound(name + " goes " + depth + " deep", depth <= 7);
            }
        }

        private int depth(String name, List<String> above) {
            Checks.sound(name + " calls itself: " + above, !above.contains(name));
            if (above.contains(name)) {
                return 99;
            }
            above.add(name);
            int most = 0;
            for (String called : calls.getOrDefault(name, new HashSet<>())) {
                most = Math.max(most, depth(called, above));
            }
            above.remove(above.size() - 1);
            return most + 1;
        }
    }
}
