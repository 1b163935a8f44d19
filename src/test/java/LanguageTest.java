import com.sun.source.tree.AssertTree;
import com.sun.source.tree.BinaryTree;
import com.sun.source.tree.BlockTree;
import com.sun.source.tree.ClassTree;
import com.sun.source.tree.CompilationUnitTree;
import com.sun.source.tree.IdentifierTree;
import com.sun.source.tree.LambdaExpressionTree;
import com.sun.source.tree.LineMap;
import com.sun.source.tree.LiteralTree;
import com.sun.source.tree.MemberReferenceTree;
import com.sun.source.tree.MemberSelectTree;
import com.sun.source.tree.MethodInvocationTree;
import com.sun.source.tree.MethodTree;
import com.sun.source.tree.NewClassTree;
import com.sun.source.tree.SynchronizedTree;
import com.sun.source.tree.ThrowTree;
import com.sun.source.tree.Tree;
import com.sun.source.tree.TryTree;
import com.sun.source.tree.VariableTree;
import com.sun.source.util.JavacTask;
import com.sun.source.util.SourcePositions;
import com.sun.source.util.TreeScanner;
import com.sun.source.util.Trees;
import java.io.File;
import java.lang.reflect.Constructor;
import java.lang.reflect.Field;
import java.lang.reflect.Method;
import java.lang.reflect.Modifier;
import java.nio.file.Files;
import java.nio.file.Path;
import java.util.Arrays;
import java.util.HashSet;
import java.util.List;
import java.util.Map;
import java.util.Set;
import java.util.TreeMap;
import java.util.TreeSet;
import java.util.regex.Matcher;
import java.util.regex.Pattern;
import javax.tools.JavaCompiler;
import javax.tools.StandardJavaFileManager;
import javax.tools.ToolProvider;

/** The rules of LANGUAGE.md that can be read off the source, and the document's face. */
public final class LanguageTest {
    private static final String SOURCE = "src/main/java/WhoseName.java";
    private static final Path DOCUMENT = Path.of("..", "shared", "DOC.md");
    private static final String[] FACE = {
        "purse 2", "leave 8", "back 4", "heard 2", "bargain 6", "read 1", "after 5", "leaveIs 2", "bargainIs 2",
        "type 2", "wipe 1", "fault 1", "law 2", "reaches 4", "bound 3", "till 2", "ask 3", "owes 2", "end 3",
        "sure 3", "hangs 3", "wanted 2", "turned 1", "letter 4", "sheet 3", "lose 1", "lay 4", "get 3", "copy 5",
        "write 2", "count 1", "digest 0",
    };
    private static final Set<String> LIBRARY = Set.of(
            "System.arraycopy", "Math.min", "Math.max", "Integer.bitCount");

    private static int wrong = 0;

    private static void refuse(int rule, String what) {
        wrong++;
        System.out.println("rule " + rule + ": " + what);
    }

    public static void main(String[] args) throws Exception {
        face();
        faceAsWritten();
        source();
        System.out.println(wrong == 0 ? "the rules are kept" : wrong + " breaches");
        if (wrong != 0) {
            System.exit(1);
        }
    }

    private static void face() {
        Set<String> due = new TreeSet<>(Arrays.asList(FACE));
        Set<String> there = new TreeSet<>();
        Set<String> names = new HashSet<>();
        for (Method m : WhoseName.class.getDeclaredMethods()) {
            if (Modifier.isPublic(m.getModifiers())) {
                there.add(m.getName() + " " + m.getParameterCount());
                names.add(m.getName());
            }
        }
        if (!there.equals(due)) {
            refuse(1, "the public methods are " + there);
        }
        for (Method m : WhoseName.class.getDeclaredMethods()) {
            if (!Modifier.isPublic(m.getModifiers()) && (!Modifier.isPrivate(m.getModifiers()) || names.contains(m.getName()))) {
                refuse(1, m.getName());
            }
        }
        Set<String> constants = Set.of("NONE", "BAD", "NOT", "FULL");
        for (Field f : WhoseName.class.getDeclaredFields()) {
            if (constants.contains(f.getName()) != Modifier.isPublic(f.getModifiers())
                    || !Modifier.isPublic(f.getModifiers()) && !Modifier.isPrivate(f.getModifiers())) {
                refuse(1, "field " + f.getName());
            }
            if (Modifier.isStatic(f.getModifiers()) && !Modifier.isFinal(f.getModifiers())) {
                refuse(5, "field " + f.getName());
            }
        }
        Constructor<?>[] makers = WhoseName.class.getDeclaredConstructors();
        if (makers.length != 1 || !Modifier.isPublic(makers[0].getModifiers()) || !Modifier.isFinal(WhoseName.class.getModifiers())) {
            refuse(1, "constructor or class");
        }
        for (Class<?> c : WhoseName.class.getDeclaredClasses()) {
            if (!Modifier.isStatic(c.getModifiers())) {
                refuse(2, c.getName());
            }
        }
    }

    /** The document's lines, in its order, each heading ahead of the calls that it names. */
    private static void faceAsWritten() throws Exception {
        if (!Files.exists(DOCUMENT)) {
            return;
        }
        String document = Files.readString(DOCUMENT);
        String source = Files.readString(Path.of(SOURCE));
        Map<String, Integer> places = new TreeMap<>();
        int last = -1;
        for (String line : document.substring(document.indexOf("```java"), document.indexOf("## Terms")).split("\n")) {
            if (!line.contains("public ")) {
                continue;
            }
            boolean isCall = line.endsWith(");");
            int at = source.indexOf(isCall ? line.substring(0, line.length() - 1) + " {" : line);
            if (at < 0 || at < last) {
                refuse(1, "not there, or not in this order: " + line);
            }
            last = at;
            if (isCall) {
                String head = line.substring(0, line.indexOf('('));
                places.put(head.substring(head.lastIndexOf(' ') + 1), at);
            }
        }
        headings(document, source, places);
    }

    private static void headings(String document, String source, Map<String, Integer> places) {
        Matcher told = Pattern.compile("Ahead of the calls (.*) the interface says: (---- .*)\\.").matcher(document);
        int headings = 0;
        while (told.find()) {
            headings++;
            int at = source.indexOf("    // " + told.group(2) + "\n");
            int next = source.indexOf("    // ---- ", at + 1);
            for (String name : told.group(1).replace("`", "").split(", ")) {
                int place = places.getOrDefault(name, -1);
                if (at < 0 || place < at || place > next) {
                    refuse(1, name + " does not stand behind " + told.group(2));
                }
            }
        }
        if (headings != 6 || places.size() != FACE.length + 1) {
            refuse(1, headings + " headings, " + places.size() + " calls and constructors in the document");
        }
    }

    private static void source() throws Exception {
        JavaCompiler compiler = ToolProvider.getSystemJavaCompiler();
        StandardJavaFileManager files = compiler.getStandardFileManager(null, null, null);
        JavacTask task = (JavacTask) compiler.getTask(null, files, null, null, null, files.getJavaFileObjects(new File(SOURCE)));
        for (CompilationUnitTree unit : task.parse()) {
            if (unit.getPackage() != null || !unit.getImports().isEmpty()) {
                refuse(4, "a package or an import");
            }
            Scan scan = new Scan(unit, Trees.instance(task).getSourcePositions());
            scan.scan(unit, null);
            scan.conclude();
        }
    }

    private static final class Scan extends TreeScanner<Void, Void> {
        private final CompilationUnitTree unit;
        private final SourcePositions positions;
        private final LineMap lines;
        private final Map<String, Set<String>> calls = new TreeMap<>();
        private String method = "";
        private int classes = 0;

        Scan(CompilationUnitTree unit, SourcePositions positions) {
            this.unit = unit;
            this.positions = positions;
            this.lines = unit.getLineMap();
        }

        private long first(Tree t) {
            return lines.getLineNumber(positions.getStartPosition(unit, t));
        }

        private void bar(int rule, Tree t) {
            refuse(rule, "line " + first(t) + ": " + t.getKind());
        }

        @Override public Void visitClass(ClassTree c, Void v) {
            classes++;
            int fields = 0;
            for (Tree member : c.getMembers()) {
                if (member instanceof VariableTree f && !f.getModifiers().toString().contains("static")) {
                    fields++;
                }
                if (member instanceof BlockTree b && b.isStatic()) {
                    bar(5, member);
                }
            }
            if (fields > 20) {
                refuse(11, c.getSimpleName() + " has " + fields + " fields");
            }
            return super.visitClass(c, v);
        }

        @Override public Void visitMethod(MethodTree m, Void v) {
            String outer = method;
            method = m.getName().toString();
            boolean isMaker = method.equals("<init>");
            if (!isMaker && calls.containsKey(method)) {
                refuse(1, "two methods " + method);
            }
            calls.computeIfAbsent(method, k -> new TreeSet<>());
            if (m.getParameters().size() > 7 && !method.equals("leave")) {
                refuse(11, method + " has too many parameters");
            }
            long long_ = lines.getLineNumber(positions.getEndPosition(unit, m)) - first(m) + 1;
            if (long_ > 60) {
                refuse(11, method + " has " + long_ + " lines");
            }
            super.visitMethod(m, v);
            method = outer;
            return null;
        }

        @Override public Void visitMethodInvocation(MethodInvocationTree call, Void v) {
            Tree select = call.getMethodSelect();
            if (select instanceof IdentifierTree id) {
                calls.get(method).add(id.getName().toString());
            } else if (select instanceof MemberSelectTree member) {
                String whole = member.toString();
                if (!LIBRARY.contains(whole)) {
                    calls.get(method).add(member.getIdentifier().toString());
                }
            }
            return super.visitMethodInvocation(call, v);
        }

        @Override public Void visitNewClass(NewClassTree t, Void v) {
            if (t.getClassBody() != null) {
                bar(2, t);
            }
            if (!method.equals("<init>")) {
                refuse(12, method + " makes an object");
            }
            return super.visitNewClass(t, v);
        }

        @Override public Void visitLambdaExpression(LambdaExpressionTree t, Void v) {
            bar(2, t);
            return super.visitLambdaExpression(t, v);
        }

        @Override public Void visitMemberReference(MemberReferenceTree t, Void v) {
            bar(2, t);
            return super.visitMemberReference(t, v);
        }

        @Override public Void visitThrow(ThrowTree t, Void v) {
            bar(6, t);
            return super.visitThrow(t, v);
        }

        @Override public Void visitTry(TryTree t, Void v) {
            bar(6, t);
            return super.visitTry(t, v);
        }

        @Override public Void visitSynchronized(SynchronizedTree t, Void v) {
            bar(6, t);
            return super.visitSynchronized(t, v);
        }

        @Override public Void visitAssert(AssertTree t, Void v) {
            bar(6, t);
            return super.visitAssert(t, v);
        }

        @Override public Void visitBinary(BinaryTree t, Void v) {
            for (Tree side : List.of(t.getLeftOperand(), t.getRightOperand())) {
                if (side instanceof LiteralTree literal && literal.getValue() instanceof String) {
                    bar(10, t);
                }
            }
            return super.visitBinary(t, v);
        }

        void conclude() {
            if (classes > 12) {
                refuse(11, classes + " classes");
            }
            for (String name : calls.keySet()) {
                for (String called : calls.get(name)) {
                    if (!calls.containsKey(called)) {
                        refuse(4, name + " calls " + called);
                    }
                }
            }
            for (String name : calls.keySet()) {
                int depth = depth(name, 1);
                if (depth > 8) {
                    refuse(11, name + " calls " + depth + " deep");
                }
            }
        }

        private int depth(String name, int at) {
            int deepest = at;
            if (at <= 20) {
                for (String called : calls.getOrDefault(name, Set.of())) {
                    deepest = Math.max(deepest, depth(called, at + 1));
                }
            }
            return deepest;
        }
    }
}
