import java.io.IOException;
import java.nio.file.Files;
import java.nio.file.Path;
import java.util.ArrayList;
import java.util.HashMap;
import java.util.List;
import java.util.Map;
import java.util.Set;
import java.util.TreeSet;
import java.util.regex.Matcher;
import java.util.regex.Pattern;
import java.util.stream.Collectors;
import java.util.stream.Stream;

/**
 * Every sentence of the document's terms and promises is held by a test: one of the boundary tests names it, or words
 * of it, and a promise's own sentence is named as that promise's.
 */
public final class SentencesTest {
    private static final Pattern HELD = Pattern.compile("Held\\.holds\\((\\d+),((?:\\s*\\+?\\s*\"[^\"]*\")+)\\)");
    private static final int PROMISES = 28;

    private final Map<Integer, Set<String>> heldBy = new HashMap<>();
    private final Set<String> heldByAny = new TreeSet<>();
    private int sentences = 0;
    private int missing = 0;

    public static void main(String[] args) throws IOException {
        SentencesTest test = new SentencesTest();
        test.readTests();
        String document = Held.read("../shared/DOC.md");
        test.lookForTerms(document);
        for (int promise = 1; promise <= PROMISES; promise++) {
            test.lookForPromise(document, promise);
        }
        System.out.println(test.sentences + " sentences, " + test.missing + " of them are held by no test");
        if (test.missing != 0 || test.sentences < 2 * PROMISES) {
            System.exit(1);
        }
    }

    private void readTests() throws IOException {
        List<Path> files;
        try (Stream<Path> all = Files.list(Path.of("src/test/java"))) {
            files = all.filter(file -> file.toString().endsWith("BoundsTest.java")).collect(Collectors.toList());
        }
        for (Path file : files) {
            Matcher held = HELD.matcher(Held.read(file.toString()));
            while (held.find()) {
                String words = held.group(2).replaceAll("\"\\s*\\+\\s*\"", "").trim();
                note(Integer.parseInt(held.group(1)), words.substring(1, words.length() - 1));
            }
        }
    }

    private void note(int promise, String words) {
        heldBy.computeIfAbsent(promise, any -> new TreeSet<>()).add(words);
        heldByAny.add(words);
    }

    private void lookForTerms(String document) {
        String terms = between(document, "## Terms", "## Promise 1:");
        String bare = Held.inOneLine(terms.replaceAll("======== \\d+|```\\w*", " "));
        for (String sentence : sentencesOf(bare)) {
            if (!sentence.startsWith("Ahead of the calls")) {
                lookFor("the terms", sentence, heldByAny);
            }
        }
    }

    private void lookForPromise(String document, int promise) {
        String next = promise == PROMISES ? "## Not promised" : "## Promise " + (promise + 1) + ":";
        String told = Held.inOneLine(between(document, "## Promise " + promise + ":", next));
        String words = told.substring(told.indexOf("`: ") + 3);
        for (String sentence : sentencesOf(words)) {
            lookFor("promise " + promise, sentence, heldBy.getOrDefault(promise, Set.of()));
        }
    }

    private static String between(String document, String begin, String end) {
        return document.substring(document.indexOf(begin) + begin.length(), document.indexOf(end));
    }

    private static List<String> sentencesOf(String text) {
        List<String> found = new ArrayList<>();
        for (String sentence : text.split("(?<=[\\w)])\\.( |$)")) {
            if (!sentence.isBlank()) {
                found.add(sentence.trim());
            }
        }
        return found;
    }

    private void lookFor(String where, String sentence, Set<String> held) {
        sentences++;
        if (held.stream().noneMatch(words -> sentence.contains(words) || words.contains(sentence))) {
            missing++;
            System.out.println("of " + where + " no test holds: " + sentence);
        }
    }
}
