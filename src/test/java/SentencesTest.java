import java.nio.file.Files;
import java.nio.file.Path;
import java.util.HashMap;
import java.util.Map;
import java.util.TreeMap;
import java.util.regex.Matcher;
import java.util.regex.Pattern;

/**
 * The document sentence by sentence: each one of the terms and of the promises has a run of its own, told in the
 * document's order, and no words of them are left without one.
 */
public final class SentencesTest {
    private static final Path DOCUMENT = Path.of("../shared/DOC.md");

    private SentencesTest() {
    }

    /** Runs all; what is wrong is printed by the script. */
    static Script runAll() throws Exception {
        Script script = new Script();
        for (String part : new String[] {SentencesOfTerms.NAMES_AND_FAMILIES, SentencesOfTerms.HOURS_AND_STEPS,
            SentencesOfTexts.TOKENS, SentencesOfTexts.CLAUSES, SentencesOfTexts.SUMS, SentencesOfTexts.FAULTS,
            SentencesOfTexts.RULING, SentencesOfAsking.WAYS, SentencesOfAsking.ODDS,
            SentencesOfAsking.HALVES_AND_RHYMES, SentencesOfAsking.POWER, SentencesOfAsking.SPRINGS,
            SentencesOfPromises.TOLD, SentencesOfPromises.DONE, SentencesOfPromises.SEEN, SentencesOfPromises.LIKED,
            SentencesOfPromises.COUNTED}) {
            script.run(SentencesOfTexts.whole(part));
        }
        return script;
    }

    public static void main(String[] args) throws Exception {
        Script script = runAll();
        int wrong = script.wrong;
        if (NamesInMelt.NONE != -1) {
            System.out.println("NONE is " + NamesInMelt.NONE);
            wrong++;
        }
        wrong += checkSentences(script);
        System.out.println(script.sentences.size() + " runs, " + script.checks + " answers, " + wrong + " faults");
        if (wrong != 0) {
            System.exit(1);
        }
    }

    private static int checkSentences(Script script) throws Exception {
        Map<String, String> sections = readSections();
        Map<String, boolean[]> spoken = new TreeMap<>();
        Map<String, Integer> latest = new HashMap<>();
        int wrong = 0;
        for (String sentence : script.sentences) {
            int cut = sentence.indexOf(": ");
            String section = sentence.substring(0, cut);
            String words = sentence.substring(cut + 2);
            String text = sections.getOrDefault(section, "");
            int at = text.indexOf(words, latest.getOrDefault(section, 0));
            if (at < 0) {
                System.out.println("the document doesn't say, there: " + sentence);
                wrong++;
                continue;
            }
            latest.put(section, at);
            boolean[] marks = spoken.computeIfAbsent(section, key -> new boolean[text.length()]);
            java.util.Arrays.fill(marks, at, at + words.length(), true);
        }
        for (Map.Entry<String, String> section : sections.entrySet()) {
            String left = leftOver(section.getValue(), spoken.get(section.getKey()));
            if (!left.isEmpty()) {
                System.out.println("no run speaks of, " + section.getKey() + ": " + left);
                wrong++;
            }
        }
        return wrong;
    }

    private static String leftOver(String text, boolean[] marks) {
        StringBuilder left = new StringBuilder();
        for (int i = 0; i < text.length(); i++) {
            left.append(marks != null && marks[i] ? ' ' : text.charAt(i));
        }
        return left.toString().replaceAll(" +", " ").strip();
    }

    /** The terms, and each promise behind its signature, every blank a single one, without the marks of the page. */
    private static Map<String, String> readSections() throws Exception {
        String document = Files.readString(DOCUMENT);
        Map<String, String> sections = new TreeMap<>();
        Matcher part = Pattern.compile("(?ms)^## (Terms|Promise (\\d+)[^\\n]*)\\n(.*?)(?=^## )").matcher(document);
        while (part.find()) {
            boolean terms = part.group(2) == null;
            String text = part.group(3).replaceAll("```(text)?", " ").replaceAll("==== (II\\.)?", " ");
            if (!terms) {
                text = text.replaceFirst("`[^`]*`:?", " ");
            }
            sections.put(terms ? "terms" : part.group(2), text.replaceAll("\\s+", " ").strip());
        }
        return sections;
    }
}
