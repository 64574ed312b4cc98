import java.io.IOException;
import java.nio.charset.StandardCharsets;
import java.nio.file.Files;
import java.nio.file.Path;
import java.util.Set;
import java.util.TreeSet;
import java.util.function.IntUnaryOperator;

/**
 * What the tests of the document's boundary cases share: each names the promise and the words of the document that
 * it holds, and the answers that those words ask for.
 */
final class Held {
    static final int NONE = -1, BAD = -2, NOT = -3, FULL = -4;
    static final int NULL = -11, INDEX = -12, CAST = -13, STORE = -14, SIZE = -15;
    static final int ANY_NUMBER_BAD = -10002;
    static final int LEAST = Integer.MIN_VALUE, GREATEST = Integer.MAX_VALUE;
    static final String EIGHT = "011;".repeat(7) + "011";

    private static final String DOCUMENT = inOneLine(read("../shared/DOC.md"));
    private static final Set<Integer> PROMISES = new TreeSet<>();
    private static String held = "";
    private static int compared = 0;
    private static int comparedInAll = 0;
    private static int wrong = 0;

    private Held() {
    }

    /** What is compared from here on is due by these words, of the promise itself or of the terms that it uses. */
    static void holds(int promise, String words) {
        mustHaveCompared();
        held = "promise " + promise + ", \"" + words + "\"";
        PROMISES.add(promise);
        if (!DOCUMENT.contains(words)) {
            wrong("the document does not say this");
        }
    }

    static void due(String call, long got, long want) {
        compared++;
        if (got != want) {
            wrong(call + " answered " + got + ", due is " + want);
        }
    }

    /** A call at several numbers, one behind the other: number, answer that is due, number, answer, .. */
    static void at(String call, IntUnaryOperator asked, int... numbersAndAnswers) {
        for (int i = 0; i + 1 < numbersAndAnswers.length; i += 2) {
            int number = numbersAndAnswers[i];
            due(call + " at " + number, asked.applyAsInt(number), numbersAndAnswers[i + 1]);
        }
    }

    /** Ends the test: it fails if an answer was wrong, or if a promise from the first to the last was not named. */
    static void end(int first, int last) {
        mustHaveCompared();
        for (int promise = first; promise <= last; promise++) {
            if (!PROMISES.contains(promise)) {
                wrong("no words of promise " + promise + " are held");
            }
        }
        System.out.println(comparedInAll + " answers at boundaries, " + wrong + " wrong");
        if (wrong != 0) {
            System.exit(1);
        }
    }

    private static void mustHaveCompared() {
        if (!held.isEmpty() && compared == 0) {
            wrong("nothing was compared");
        }
        comparedInAll += compared;
        compared = 0;
    }

    private static void wrong(String what) {
        wrong++;
        System.out.println(held + ": " + what);
    }

    static TwoGoats with(String meadow, String day) {
        TwoGoats x = new TwoGoats();
        typeAll(x, 0, meadow);
        typeAll(x, 1, day);
        return x;
    }

    static void typeAll(TwoGoats x, int text, String bytes) {
        for (int i = 0; i < bytes.length(); i++) {
            x.type(text, bytes.charAt(i));
        }
    }

    static void retype(TwoGoats x, int text, String bytes) {
        x.wipe(text);
        typeAll(x, text, bytes);
    }

    /** A sheet of a form with these items. */
    static void layAll(TwoGoats x, int s, int form, int... items) {
        x.sheet(s, form, items.length);
        for (int i = 0; i < items.length; i++) {
            x.lay(s, form, i, items[i]);
        }
    }

    /** The PATHS of the ROPE from the first goat on, as digits; - for none. */
    static String ropeBehind(TwoGoats x, int day, int k) {
        StringBuilder paths = new StringBuilder("-");
        for (int i = 0; i < 41 && x.rope(day, k, i) >= 0; i++) {
            paths.append(x.rope(day, k, i));
        }
        return paths.toString();
    }

    static void dueRope(TwoGoats x, int day, int k, String want) {
        String got = ropeBehind(x, day, k);
        due("the rope of day " + day + " behind " + k + " steps, " + got + ", is " + want, got.equals(want) ? 1 : 0, 1);
    }

    static String read(String file) {
        try {
            return Files.readString(Path.of(file), StandardCharsets.UTF_8);
        } catch (IOException e) {
            throw new IllegalStateException(file, e);
        }
    }

    static String inOneLine(String text) {
        return text.replaceAll("\\s+", " ");
    }
}
