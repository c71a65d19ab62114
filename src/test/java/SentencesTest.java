import java.nio.file.Files;
import java.nio.file.Path;
import java.util.ArrayList;
import java.util.List;
import java.util.Map;
import java.util.TreeMap;
import java.util.regex.Matcher;
import java.util.regex.Pattern;
import java.util.stream.Stream;

/**
 * The sentences that tests name by Due.sentence stand in the document as they are named; no place of a promise that
 * tells of a refused call, of a number that is not there or of a range, and no more than a few words on end of the
 * Terms and the promises, are without a test that names them.
 */
public final class SentencesTest {
    private static final Path DOCUMENT = Path.of("../shared/DOC.md");
    private static final Path TESTS = Path.of("src/test/java");
    private static final Pattern NAMED = Pattern.compile("Due\\.sentence\\((\\d+), \"((?:[^\"\\\\]|\\\\.)*)\"\\)");
    private static final Pattern BOUNDARY = Pattern.compile("NONE|-2|-3|nothing happens|none comes|more than|below|\\d+ to \\d+|0 if not|0 ahead");
    private static final int PROMISES = 34;
    /** Words such as "SETTINGS:", "By BALANCED:" lead to what is named; a clause has more of them. */
    private static final int FEW_WORDS = 3;
    private static int wrong;

    private static void fail(String what) {
        wrong++;
        System.out.println(what);
    }

    /** Of each promise its words behind the method's face; 0: the whole document. */
    private static Map<Integer, String> promises() throws Exception {
        String all = Files.readString(DOCUMENT).replaceAll("\\s+", " ");
        Map<Integer, String> words = new TreeMap<>();
        words.put(0, all);
        Matcher head = Pattern.compile("## Promise (\\d+): [^`]*`[^`]*`: (.*?) (?=## )").matcher(all);
        while (head.find()) {
            words.put(Integer.parseInt(head.group(1)), head.group(2));
        }
        return words;
    }

    private static Map<Integer, List<String>> named() throws Exception {
        Map<Integer, List<String>> found = new TreeMap<>();
        List<Path> files = new ArrayList<>();
        try (Stream<Path> listed = Files.list(TESTS)) {
            listed.filter(file -> file.toString().endsWith(".java")).forEach(files::add);
        }
        for (Path file : files) {
            Matcher m = NAMED.matcher(Files.readString(file));
            while (m.find()) {
                found.computeIfAbsent(Integer.parseInt(m.group(1)), n -> new ArrayList<>()).add(m.group(2));
            }
        }
        return found;
    }

    private static void stand(Map<Integer, String> words, Map<Integer, List<String>> named) {
        for (Map.Entry<Integer, List<String>> one : named.entrySet()) {
            for (String sentence : one.getValue()) {
                if (!words.getOrDefault(one.getKey(), "").contains(sentence)) {
                    fail("promise " + one.getKey() + " does not say: " + sentence);
                }
            }
        }
    }

    private static boolean[] places(String words, List<String> sentences) {
        boolean[] has = new boolean[words.length()];
        for (String sentence : sentences) {
            for (int at = words.indexOf(sentence); at >= 0; at = words.indexOf(sentence, at + 1)) {
                for (int i = at; i < at + sentence.length(); i++) {
                    has[i] = true;
                }
            }
        }
        return has;
    }

    private static void noClauseLeft(String where, String words, List<String> sentences) {
        boolean[] has = places(words, sentences);
        for (int begin = 0, i = 0; i <= words.length(); i++) {
            if (i == words.length() || has[i]) {
                String left = words.substring(begin, i);
                if (Pattern.compile("[A-Za-z0-9]+").matcher(left).results().count() > FEW_WORDS) {
                    fail(where + ": no test names: " + left);
                }
                begin = i + 1;
            }
        }
    }

    private static String terms(String all) {
        int begin = all.indexOf("## Terms");
        int end = all.indexOf("## Promise 1:");
        if (begin < 0 || end < begin) {
            fail("the Terms were not found in the document");
            return "";
        }
        // Signs that only set the parts off are no words of it.
        return all.substring(begin, end).replaceAll("```(text)?|==== I+\\.", "");
    }

    private static void covered(int promise, String words, List<String> sentences) {
        boolean[] has = places(words, sentences);
        Matcher edge = BOUNDARY.matcher(words);
        while (edge.find()) {
            if (!has[edge.start()]) {
                fail("promise " + promise + ": no test names the place of \"" + edge.group() + "\" in: " + words);
            }
        }
    }

    public static void main(String[] args) throws Exception {
        if (!Files.exists(DOCUMENT)) {
            System.out.println("the document is not here: nothing to compare with");
            return;
        }
        Map<Integer, String> words = promises();
        Map<Integer, List<String>> named = named();
        stand(words, named);
        for (int promise = 1; promise <= PROMISES; promise++) {
            if (!words.containsKey(promise)) {
                fail("promise " + promise + " was not found in the document");
                continue;
            }
            List<String> sentences = named.getOrDefault(promise, List.of());
            if (sentences.isEmpty()) {
                fail("no test names a sentence of promise " + promise);
            }
            covered(promise, words.get(promise), sentences);
            noClauseLeft("promise " + promise, words.get(promise), sentences);
        }
        noClauseLeft("Terms", terms(words.get(0)), named.getOrDefault(0, List.of()));
        System.out.println(wrong == 0 ? "each clause of the Terms and the promises is named by a test" : wrong + " sentences are wanting");
        if (wrong != 0) {
            System.exit(1);
        }
    }
}
