import com.sun.source.tree.*;
import com.sun.source.util.JavacTask;
import com.sun.source.util.SourcePositions;
import com.sun.source.util.TreeScanner;
import com.sun.source.util.Trees;
import java.io.ByteArrayOutputStream;
import java.io.InputStream;
import java.io.OutputStream;
import java.io.PrintStream;
import java.lang.reflect.Field;
import java.lang.reflect.Method;
import java.net.URI;
import java.nio.file.Files;
import java.nio.file.Path;
import java.util.ArrayList;
import java.util.HashMap;
import java.util.List;
import java.util.Map;
import java.util.TreeMap;
import java.util.concurrent.ExecutorService;
import java.util.concurrent.Executors;
import java.util.concurrent.Future;
import javax.tools.FileObject;
import javax.tools.ForwardingJavaFileManager;
import javax.tools.JavaCompiler;
import javax.tools.JavaFileManager;
import javax.tools.JavaFileObject;
import javax.tools.SimpleJavaFileObject;
import javax.tools.StandardJavaFileManager;
import javax.tools.ToolProvider;

/**
 * Breaks the class in one small place at a time and tells which broken ones the runs by hand don't notice.
 * No test: by hand, now and then. What it tells is to be read: some changes change nothing that can be seen.
 *   java -cp OUT Mutants
 */
public final class Mutants {
    private static final Path SOURCE = Path.of("src/main/java/NamesInMelt.java");
    private static final long LIMIT = 20_000;

    private Mutants() {
    }

    private static final class Change {
        final int from;
        final int to;
        final String words;

        Change(int from, int to, String words) {
            this.from = from;
            this.to = to;
            this.words = words;
        }
    }

    private static final class Finder extends TreeScanner<Void, Void> {
        final CompilationUnitTree unit;
        final SourcePositions positions;
        final String source;
        final List<Change> changes = new ArrayList<>();

        Finder(CompilationUnitTree unit, SourcePositions positions, String source) {
            this.unit = unit;
            this.positions = positions;
            this.source = source;
        }

        private int start(Tree tree) {
            return (int) positions.getStartPosition(unit, tree);
        }

        private int stop(Tree tree) {
            return (int) positions.getEndPosition(unit, tree);
        }

        private String words(Tree tree) {
            return source.substring(start(tree), stop(tree));
        }

        private void put(Tree tree, String words) {
            changes.add(new Change(start(tree), stop(tree), words));
        }

        @Override
        public Void visitBinary(BinaryTree tree, Void none) {
            String a = words(tree.getLeftOperand());
            String b = words(tree.getRightOperand());
            for (String other : others(tree.getKind())) {
                put(tree, "(" + a + ") " + other + " (" + b + ")");
            }
            return super.visitBinary(tree, none);
        }

        private static String[] others(Tree.Kind kind) {
            switch (kind) {
                case LESS_THAN:
                    return new String[] {"<=", ">="};
                case LESS_THAN_EQUAL:
                    return new String[] {"<", ">"};
                case GREATER_THAN:
                    return new String[] {">=", "<="};
                case GREATER_THAN_EQUAL:
                    return new String[] {">", "<"};
                case EQUAL_TO:
                    return new String[] {"!="};
                case NOT_EQUAL_TO:
                    return new String[] {"=="};
                case PLUS:
                    return new String[] {"-"};
                case MINUS:
                    return new String[] {"+"};
                case MULTIPLY:
                    return new String[] {"+"};
                case DIVIDE: case REMAINDER:
                    return new String[] {"*"};
                case CONDITIONAL_AND:
                    return new String[] {"||"};
                case CONDITIONAL_OR:
                    return new String[] {"&&"};
                case AND:
                    return new String[] {"|"};
                case OR:
                    return new String[] {"&"};
                default:
                    return new String[0];
            }
        }

        @Override
        public Void visitLiteral(LiteralTree tree, Void none) {
            if (tree.getKind() == Tree.Kind.INT_LITERAL) {
                int value = (Integer) tree.getValue();
                put(tree, Integer.toString(value + 1));
                put(tree, "(" + (value - 1) + ")");
            } else if (tree.getKind() == Tree.Kind.BOOLEAN_LITERAL) {
                put(tree, String.valueOf(!(Boolean) tree.getValue()));
            }
            return super.visitLiteral(tree, none);
        }

        @Override
        public Void visitUnary(UnaryTree tree, Void none) {
            if (tree.getKind() == Tree.Kind.LOGICAL_COMPLEMENT || tree.getKind() == Tree.Kind.BITWISE_COMPLEMENT
                || tree.getKind() == Tree.Kind.UNARY_MINUS) {
                put(tree, words(tree.getExpression()));
            }
            return super.visitUnary(tree, none);
        }

        @Override
        public Void visitIf(IfTree tree, Void none) {
            put(tree.getCondition(), "(" + words(tree.getCondition()) + " && always(false))");
            put(tree.getCondition(), "(" + words(tree.getCondition()) + " || always(true))");
            return super.visitIf(tree, none);
        }

        @Override
        public Void visitConditionalExpression(ConditionalExpressionTree tree, Void none) {
            put(tree.getTrueExpression(), words(tree.getFalseExpression()));
            put(tree.getFalseExpression(), words(tree.getTrueExpression()));
            return super.visitConditionalExpression(tree, none);
        }

        @Override
        public Void visitExpressionStatement(ExpressionStatementTree tree, Void none) {
            put(tree, ";");
            return super.visitExpressionStatement(tree, none);
        }

        @Override
        public Void visitBreak(BreakTree tree, Void none) {
            put(tree, ";");
            return super.visitBreak(tree, none);
        }
    }

    private static final class Made extends SimpleJavaFileObject {
        final ByteArrayOutputStream bytes = new ByteArrayOutputStream();

        Made(String name) {
            super(URI.create("made:///" + name + ".class"), Kind.CLASS);
        }

        @Override
        public OutputStream openOutputStream() {
            return bytes;
        }
    }

    private static final class Told extends SimpleJavaFileObject {
        final String source;

        Told(String source) {
            super(URI.create("told:///NamesInMelt.java"), Kind.SOURCE);
            this.source = source;
        }

        @Override
        public CharSequence getCharContent(boolean ignore) {
            return source;
        }
    }

    private static Map<String, byte[]> compile(JavaCompiler compiler, String source) throws Exception {
        Map<String, Made> made = new HashMap<>();
        try (StandardJavaFileManager plain = compiler.getStandardFileManager(null, null, null)) {
            JavaFileManager files = new ForwardingJavaFileManager<JavaFileManager>(plain) {
                @Override
                public JavaFileObject getJavaFileForOutput(Location location, String name, JavaFileObject.Kind kind,
                    FileObject sibling) {
                    Made one = new Made(name.replace('.', '/'));
                    made.put(name, one);
                    return one;
                }
            };
            boolean fine = compiler.getTask(null, files, d -> { }, List.of("-proc:none"), null,
                List.of(new Told(source))).call();
            if (!fine) {
                return null;
            }
        }
        Map<String, byte[]> bytes = new HashMap<>();
        made.forEach((name, one) -> bytes.put(name, one.bytes.toByteArray()));
        return bytes;
    }

    private static final class Loader extends ClassLoader {
        final Map<String, byte[]> own;

        Loader(Map<String, byte[]> own) {
            super(Mutants.class.getClassLoader());
            this.own = own;
        }

        @Override
        protected Class<?> loadClass(String name, boolean resolve) throws ClassNotFoundException {
            synchronized (this) {
                Class<?> found = findLoadedClass(name);
                if (found != null) {
                    return found;
                }
                byte[] bytes = own.get(name);
                if (bytes == null && (name.startsWith("Sentences") || name.equals("Script"))) {
                    try (InputStream in = getParent().getResourceAsStream(name + ".class")) {
                        bytes = in == null ? null : in.readAllBytes();
                    } catch (java.io.IOException e) {
                        throw new ClassNotFoundException(name, e);
                    }
                }
                return bytes == null ? super.loadClass(name, resolve) : defineClass(name, bytes, 0, bytes.length);
            }
        }
    }

    @SuppressWarnings({"deprecation", "removal"})
    private static boolean isNoticed(Map<String, byte[]> bytes) throws Exception {
        boolean[] noticed = {true};
        Thread thread = new Thread(null, () -> {
            try {
                Method run = new Loader(bytes).loadClass("SentencesTest").getDeclaredMethod("runAll");
                run.setAccessible(true);
                Object script = run.invoke(null);
                Field wrong = script.getClass().getDeclaredField("wrong");
                wrong.setAccessible(true);
                noticed[0] = wrong.getInt(script) > 0;
            } catch (Throwable e) {
                noticed[0] = true;
            }
        }, "mutant", 1 << 22);
        thread.start();
        thread.join(LIMIT);
        if (thread.isAlive()) {
            thread.stop();
            return true;
        }
        return noticed[0];
    }

    private static String apply(String source, Change change) {
        String broken = source.substring(0, change.from) + change.words + source.substring(change.to);
        // Without this the compiler would see code that is never reached, and refuse.
        int end = broken.lastIndexOf('}');
        return broken.substring(0, end)
            + "static boolean always(boolean what) { return what; } }";
    }

    public static void main(String[] args) throws Exception {
        String source = Files.readString(SOURCE);
        JavaCompiler compiler = ToolProvider.getSystemJavaCompiler();
        List<Change> changes = new ArrayList<>();
        try (StandardJavaFileManager files = compiler.getStandardFileManager(null, null, null)) {
            JavacTask task = (JavacTask) compiler.getTask(null, files, null, null, null, files.getJavaFileObjects(SOURCE));
            for (CompilationUnitTree unit : task.parse()) {
                Finder finder = new Finder(unit, Trees.instance(task).getSourcePositions(), source);
                finder.scan(unit, null);
                changes.addAll(finder.changes);
            }
        }
        PrintStream out = System.out;
        System.setOut(new PrintStream(OutputStream.nullOutputStream()));
        ExecutorService workers = Executors.newFixedThreadPool(Runtime.getRuntime().availableProcessors());
        Map<Integer, Future<String>> answers = new TreeMap<>();
        for (int i = 0; i < changes.size(); i++) {
            Change change = changes.get(i);
            answers.put(i, workers.submit(() -> {
                Map<String, byte[]> bytes = compile(compiler, apply(source, change));
                return bytes == null ? "none" : isNoticed(bytes) ? "noticed" : tell(source, change);
            }));
        }
        int noticed = 0;
        int left = 0;
        for (Future<String> answer : answers.values()) {
            String told = answer.get();
            if (told.equals("noticed")) {
                noticed++;
            } else if (!told.equals("none")) {
                left++;
                out.println(told);
            }
        }
        workers.shutdown();
        out.println(changes.size() + " changes, " + noticed + " noticed, " + left + " not");
        System.exit(0);
    }

    private static String tell(String source, Change change) {
        int line = 1;
        for (int i = 0; i < change.from; i++) {
            line += source.charAt(i) == '\n' ? 1 : 0;
        }
        return line + ": " + source.substring(change.from, change.to).replaceAll("\\s+", " ") + "  ->  "
            + change.words.replaceAll("\\s+", " ");
    }
}
