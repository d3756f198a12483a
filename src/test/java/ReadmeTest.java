import java.lang.reflect.Method;
import java.lang.reflect.Modifier;
import java.nio.file.Files;
import java.nio.file.Path;
import java.util.regex.Matcher;
import java.util.regex.Pattern;

/** README.md shows calls with their answers, and names every call. */
public final class ReadmeTest {
    private static final Path README = Path.of("README.md");
    private static final Pattern SHOWN = Pattern.compile("valley\\.(\\w+\\([^)]*\\));\\s*// (-?\\d+|true|false): .*");

    private ReadmeTest() {
    }

    public static void main(String[] args) throws Exception {
        String readme = Files.readString(README);
        Script script = new Script();
        StringBuilder lines = new StringBuilder("promise 1: README.md\n");
        int unread = 0;
        for (String line : readme.split("\n")) {
            Matcher shown = SHOWN.matcher(line);
            if (shown.matches()) {
                lines.append(shown.group(1)).append(" = ").append(shown.group(2)).append('\n');
            } else if (line.startsWith("valley.")) {
                System.out.println("no answer is shown: " + line);
                unread++;
            }
        }
        script.run(lines.toString());
        int wrong = script.wrong + unread + countUnnamed(readme);
        System.out.println(script.checks + " answers are shown, " + wrong + " faults");
        if (wrong != 0 || script.checks == 0) {
            System.exit(1);
        }
    }

    private static int countUnnamed(String readme) {
        int unnamed = 0;
        for (Method method : NamesInMelt.class.getDeclaredMethods()) {
            boolean outer = Modifier.isPublic(method.getModifiers());
            if (outer && !readme.contains("`" + method.getName() + "`")) {
                System.out.println("README.md doesn't name " + method.getName());
                unnamed++;
            }
        }
        return unnamed;
    }
}
