import java.lang.reflect.InvocationTargetException;
import java.lang.reflect.Method;
import java.util.ArrayList;
import java.util.List;
import java.util.Set;
import java.util.TreeSet;

/**
 * Runs of calls, told as lines.
 *   promise 14: what the run shows    a new object, whose answers speak of that promise (or several: 14, 22)
 *   says 14: a sentence               a new object, whose answers speak of that sentence of the promise's section
 *   says terms: a sentence            the same, of the document's terms
 *   hour(2) = 1                       a call with the answer that is due (true and false for booleans)
 *   call(0)                           a call whose answer doesn't matter here
 *   tape melts 1;                     the tape has just these bytes (\n, \t, \0 and \xHH stand for single bytes)
 *   read melts 1; = 0                 the same, then text() with the answer that is due
 *   10 times hour(60) = 0             the same call more than once, with the same answer
 */
final class Script {
    final Set<Integer> promises = new TreeSet<>();
    /** The sentences that runs speak of, in their order: the section, a colon, a blank, the words. */
    final List<String> sentences = new ArrayList<>();
    int checks;
    int wrong;
    private static final int MOST_CALLS = 512;
    private NamesInMelt object = new NamesInMelt();
    private String title = "";
    private int calls;

    void run(String lines) throws Exception {
        for (String line : lines.split("\n")) {
            line = line.strip();
            if (line.startsWith("promise ")) {
                open(line);
            } else if (line.startsWith("says ")) {
                begin(line);
                sentences.add(line.substring(5));
            } else if (line.startsWith("tape ")) {
                tape(line.substring(5));
            } else if (line.startsWith("read ")) {
                int cut = line.lastIndexOf(" = ");
                tape(line.substring(Math.min(5, cut), cut));
                call("text()" + line.substring(cut), line);
            } else if (line.matches("\\d+ times .*")) {
                for (int i = Integer.parseInt(line.substring(0, line.indexOf(' '))); i > 0; i--) {
                    run(line.substring(line.indexOf("times ") + 6));
                }
            } else if (!line.isEmpty()) {
                call(line, line);
            }
        }
    }

    private void begin(String line) {
        title = line;
        object = new NamesInMelt();
        calls = 0;
    }

    /** What calls answer behind the 512th is free, so no run may speak of it. */
    private void count(int more) {
        calls += more;
        if (calls > MOST_CALLS && calls - more <= MOST_CALLS) {
            wrong++;
            System.out.println(title + ": more than " + MOST_CALLS + " calls");
        }
    }

    private void open(String line) {
        begin(line);
        for (String number : line.substring(8, line.indexOf(':')).split(",")) {
            promises.add(Integer.parseInt(number.strip()));
        }
    }

    private void tape(String told) {
        List<Integer> bytes = new ArrayList<>();
        for (int i = 0; i < told.length(); i++) {
            char c = told.charAt(i);
            if (c != '\\') {
                bytes.add((int) c);
                continue;
            }
            i++;
            switch (told.charAt(i)) {
                case 'n':
                    bytes.add(10);
                    break;
                case 't':
                    bytes.add(9);
                    break;
                case '0':
                    bytes.add(0);
                    break;
                default:
                    bytes.add(Integer.parseInt(told.substring(i + 1, i + 3), 16));
                    i += 2;
                    break;
            }
        }
        object.end(0);
        count(2 + (bytes.size() + 19) / 20);
        int length = bytes.size();
        while (bytes.size() % 20 != 0) {
            bytes.add(0);
        }
        for (int i = 0; i < bytes.size(); i += 20) {
            object.feed(four(bytes, i), four(bytes, i + 4), four(bytes, i + 8), four(bytes, i + 12), four(bytes, i + 16));
        }
        if (object.end(length) != length) {
            wrong++;
            System.out.println(title + ": the tape can't be " + told);
        }
    }

    private static int four(List<Integer> bytes, int at) {
        return bytes.get(at) << 24 | bytes.get(at + 1) << 16 | bytes.get(at + 2) << 8 | bytes.get(at + 3);
    }

    private void call(String told, String line) throws Exception {
        int open = told.indexOf('(');
        int close = told.indexOf(')');
        String name = told.substring(0, open).strip();
        String inside = told.substring(open + 1, close).strip();
        String[] words = inside.isEmpty() ? new String[0] : inside.split("\\s*,\\s*");
        Object[] args = new Object[words.length];
        for (int i = 0; i < words.length; i++) {
            args[i] = value(words[i]);
        }
        count(1);
        Object got = invoke(name, args);
        int cut = told.indexOf(" = ", close);
        if (cut < 0) {
            return;
        }
        checks++;
        String due = told.substring(cut + 3).strip();
        if (!due.equals(String.valueOf(got))) {
            wrong++;
            System.out.println(title + ": " + line + " but it answered " + got);
        }
    }

    private static Object value(String word) {
        if (word.equals("true") || word.equals("false")) {
            return Boolean.valueOf(word);
        }
        return Integer.decode(word);
    }

    private Object invoke(String name, Object[] args) throws Exception {
        for (Method m : NamesInMelt.class.getMethods()) {
            if (m.getName().equals(name) && m.getDeclaringClass() == NamesInMelt.class) {
                try {
                    return m.invoke(object, args);
                } catch (InvocationTargetException e) {
                    return e.getCause();
                }
            }
        }
        throw new IllegalStateException("no method " + name);
    }
}
