import com.sun.source.tree.*;
import com.sun.source.util.JavacTask;
import com.sun.source.util.SourcePositions;
import com.sun.source.util.TreeScanner;
import com.sun.source.util.Trees;
import java.lang.reflect.Constructor;
import java.lang.reflect.Field;
import java.lang.reflect.Method;
import java.lang.reflect.Modifier;
import java.nio.file.Files;
import java.nio.file.Path;
import java.util.ArrayList;
import java.util.Arrays;
import java.util.HashMap;
import java.util.HashSet;
import java.util.List;
import java.util.Map;
import java.util.Set;
import java.util.TreeSet;
import java.util.regex.Matcher;
import java.util.regex.Pattern;
import javax.tools.JavaCompiler;
import javax.tools.StandardJavaFileManager;
import javax.tools.ToolProvider;

/** What of LANGUAGE.md can be seen from the source, and the document's face. */
public final class RulesTest {
    private static final Path SOURCE = Path.of("src/main/java/NamesInMelt.java");
    private static final Path DOCUMENT = Path.of("../shared/DOC.md");
    private static final Set<String> LIBRARY = Set.of("length", "charAt", "isEmpty", "equals", "indexOf", "substring",
        "toCharArray", "append", "setCharAt", "setLength", "deleteCharAt", "reverse", "toString", "arraycopy", "copyOf",
        "copyOfRange", "fill", "clone", "max", "min", "abs", "bitCount", "floorDiv", "floorMod", "compare",
        "numberOfTrailingZeros");
    private static final int MOST_PARAMETERS = 7;
    private static final int MOST_LINES = 60;
    private static final int MOST_CLASSES = 12;
    private static final int MOST_FIELDS = 20;
    private static final int DEEPEST_CALL = 8;

    private static int wrong;

    private RulesTest() {
    }

    private static void refuse(String what) {
        wrong++;
        System.out.println(what);
    }

    public static void main(String[] args) throws Exception {
        checkFace();
        JavaCompiler compiler = ToolProvider.getSystemJavaCompiler();
        try (StandardJavaFileManager files = compiler.getStandardFileManager(null, null, null)) {
            JavacTask task = (JavacTask) compiler.getTask(null, files, null, List.of("--release", "17"), null,
                files.getJavaFileObjects(SOURCE));
            for (CompilationUnitTree unit : task.parse()) {
                Shape shape = new Shape(unit, Trees.instance(task).getSourcePositions());
                shape.scan(unit, null);
                shape.finish();
            }
        }
        System.out.println(wrong == 0 ? "the rules are kept" : wrong + " faults against the rules");
        if (wrong != 0) {
            System.exit(1);
        }
    }

    private static void checkFace() throws Exception {
        String document = Files.readString(DOCUMENT);
        Matcher block = Pattern.compile("```java\\n(.*?)```", Pattern.DOTALL).matcher(document);
        if (!block.find()) {
            refuse("the document shows no face");
            return;
        }
        Set<String> due = new TreeSet<>();
        for (String line : block.group(1).split("\n")) {
            String told = line.strip();
            if (told.startsWith("public ") && told.endsWith(";")) {
                due.add(told.replaceAll("(\\w+) \\w+(?=[,)])", "$1").replaceAll(" = .*", ";").replaceAll("[ ;]", ""));
            }
        }
        Set<String> found = new TreeSet<>();
        for (Method m : NamesInMelt.class.getDeclaredMethods()) {
            put(found, m.getModifiers(), m.getReturnType().getSimpleName() + m.getName() + types(m.getParameterTypes()));
        }
        for (Constructor<?> c : NamesInMelt.class.getDeclaredConstructors()) {
            put(found, c.getModifiers(), "NamesInMelt" + types(c.getParameterTypes()));
        }
        for (Field f : NamesInMelt.class.getDeclaredFields()) {
            put(found, f.getModifiers(), f.getType().getSimpleName() + f.getName());
        }
        if (!due.equals(found)) {
            refuse("the face is " + found + ", due is " + due);
        }
        if (NamesInMelt.class.getModifiers() != (Modifier.PUBLIC | Modifier.FINAL)) {
            refuse("the class is not public and final");
        }
    }

    private static void put(Set<String> found, int modifiers, String what) {
        if ((modifiers & Modifier.PRIVATE) == 0) {
            found.add(Modifier.toString(modifiers).replace(" ", "") + what);
        }
    }

    private static String types(Class<?>[] types) {
        return Arrays.stream(types).map(Class::getSimpleName).toList().toString().replaceAll("[\\[\\] ]", "")
            .replaceAll("^(.*)$", "($1)");
    }

    /** Walks the source; methods of one name count as one, which can only make calls look deeper. */
    private static final class Shape extends TreeScanner<Void, Void> {
        private final CompilationUnitTree unit;
        private final SourcePositions places;
        private final Map<String, Set<String>> calls = new HashMap<>();
        private final Set<String> outer = new HashSet<>();
        private final List<String> notPublic = new ArrayList<>();
        private int classes;
        private String method = "";

        Shape(CompilationUnitTree unit, SourcePositions places) {
            this.unit = unit;
            this.places = places;
        }

        private int lines(Tree tree) {
            LineMap map = unit.getLineMap();
            return (int) (map.getLineNumber(places.getEndPosition(unit, tree))
                - map.getLineNumber(places.getStartPosition(unit, tree)) + 1);
        }

        @Override
        public Void visitImport(ImportTree tree, Void none) {
            if (!tree.getQualifiedIdentifier().toString().equals("java.util.Arrays")) {
                refuse("import of " + tree.getQualifiedIdentifier());
            }
            return null;
        }

        @Override
        public Void visitClass(ClassTree tree, Void none) {
            classes++;
            boolean nested = classes > 1;
            Set<javax.lang.model.element.Modifier> flags = tree.getModifiers().getFlags();
            if (nested && !flags.contains(javax.lang.model.element.Modifier.STATIC)) {
                refuse("class " + tree.getSimpleName() + " is not static");
            }
            int fields = 0;
            for (Tree member : tree.getMembers()) {
                if (member instanceof VariableTree field) {
                    boolean still = field.getModifiers().getFlags().contains(javax.lang.model.element.Modifier.STATIC);
                    boolean last = field.getModifiers().getFlags().contains(javax.lang.model.element.Modifier.FINAL);
                    fields += still ? 0 : 1;
                    if (still && !last) {
                        refuse("static field " + field.getName() + " is not final");
                    }
                    if (still && !field.getType().toString().matches("int|long|boolean|char|String|int\\[\\]")) {
                        refuse("static field " + field.getName() + " is of another type");
                    }
                }
                if (member instanceof BlockTree) {
                    refuse("an initialiser block in " + tree.getSimpleName());
                }
            }
            if (fields > MOST_FIELDS) {
                refuse("class " + tree.getSimpleName() + " has " + fields + " fields");
            }
            return super.visitClass(tree, none);
        }

        @Override
        public Void visitMethod(MethodTree tree, Void none) {
            String name = tree.getName().toString();
            String told = method;
            method = name;
            calls.computeIfAbsent(name, key -> new HashSet<>());
            if (tree.getModifiers().getFlags().contains(javax.lang.model.element.Modifier.PUBLIC)) {
                outer.add(name);
            } else {
                notPublic.add(name);
            }
            if (tree.getParameters().size() > MOST_PARAMETERS) {
                refuse(name + " takes " + tree.getParameters().size() + " parameters");
            }
            if (lines(tree) > MOST_LINES) {
                refuse(name + " has " + lines(tree) + " lines");
            }
            super.visitMethod(tree, none);
            method = told;
            return null;
        }

        @Override
        public Void visitMethodInvocation(MethodInvocationTree tree, Void none) {
            String text = tree.getMethodSelect().toString();
            calls.computeIfAbsent(method, key -> new HashSet<>()).add(text.substring(text.lastIndexOf('.') + 1));
            return super.visitMethodInvocation(tree, none);
        }

        /** A loop over what was told so far that uses an index shows the row's length too. */
        @Override
        public Void visitForLoop(ForLoopTree tree, Void none) {
            String until = String.valueOf(tree.getCondition());
            boolean told = until.matches(".*[^<]< (\\w+\\.)*(names|families|clauses|count|written|saidCount)\\b.*");
            boolean shown = until.matches(".*(< [A-Z]+|\\.length)\\b.*");
            if (told && !shown && tree.getStatement().toString().matches("(?s).*\\w\\[.*")) {
                refuse("a loop that shows no row's length: " + until);
            }
            return super.visitForLoop(tree, none);
        }

        @Override
        public Void visitBinary(BinaryTree tree, Void none) {
            boolean text = tree.toString().contains("\"");
            if (text && tree.getKind() == Tree.Kind.PLUS) {
                refuse("texts joined by +: " + tree);
            }
            return super.visitBinary(tree, none);
        }

        @Override
        public Void scan(Tree tree, Void none) {
            if (tree != null) {
                switch (tree.getKind()) {
                    case THROW: case TRY: case CATCH: case SYNCHRONIZED: case ASSERT: case LAMBDA_EXPRESSION:
                    case MEMBER_REFERENCE: case INSTANCE_OF: case ANNOTATION:
                        refuse("a " + tree.getKind() + ": " + tree);
                        break;
                    default:
                        break;
                }
                if (tree instanceof NewClassTree made && made.getClassBody() != null) {
                    refuse("an anonymous class: " + tree);
                }
            }
            return super.scan(tree, none);
        }

        void finish() {
            if (classes > MOST_CLASSES) {
                refuse(classes + " classes");
            }
            for (String name : notPublic) {
                if (!name.equals("<init>") && outer.contains(name)) {
                    refuse(name + " bears the name of a public method");
                }
            }
            Set<String> own = new HashSet<>(outer);
            own.addAll(notPublic);
            for (Set<String> called : calls.values()) {
                for (String name : called) {
                    if (!own.contains(name) && !LIBRARY.contains(name)) {
                        refuse("a call of " + name);
                    }
                }
            }
            for (String name : outer) {
                int depth = depth(name, new ArrayList<>(), own);
                if (depth > DEEPEST_CALL) {
                    refuse(name + " calls " + depth + " deep");
                }
            }
        }

        /** A call back into what is open already is recursion; what is in a round counts once. */
        private int depth(String name, List<String> open, Set<String> own) {
            int deepest = 0;
            open.add(name);
            for (String called : calls.getOrDefault(name, Set.of())) {
                if (own.contains(called) && !open.contains(called)) {
                    boolean round = reaches(called, name, new HashSet<>());
                    deepest = Math.max(deepest, depth(called, open, own) - (round ? 1 : 0));
                }
            }
            open.remove(open.size() - 1);
            return deepest + 1;
        }

        private boolean reaches(String from, String to, Set<String> seen) {
            if (from.equals(to)) {
                return true;
            }
            if (!seen.add(from)) {
                return false;
            }
            for (String called : calls.getOrDefault(from, Set.of())) {
                if (reaches(called, to, seen)) {
                    return true;
                }
            }
            return false;
        }
    }
}
