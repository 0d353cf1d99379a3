import java.io.IOException;
import java.nio.charset.StandardCharsets;
import java.nio.file.Files;
import java.nio.file.Path;
import java.util.Arrays;
import java.util.LinkedHashMap;
import java.util.Map;
import java.util.regex.Matcher;
import java.util.regex.Pattern;

/**
 * Tests that name the sentence of ../shared/DOC.md that they hold: by its heading ("Promise 9", "Term II") and its words.
 * At the end every word of the promises and of the terms must have been named, and every name must be the document's.
 */
final class Sentences {
    private static final Path DOCUMENT = Path.of("../shared/DOC.md");
    private static final int MOST_PRINTED = 50;

    /** A call of the class with its arguments put in from outside. */
    interface Call {
        long answer(int... given);
    }

    /** Of each heading its words, and which of their signs no test has named yet. */
    private final Map<String, String> words = new LinkedHashMap<>();
    private final Map<String, boolean[]> named = new LinkedHashMap<>();
    private String current = "";
    private int tests = 0;
    private int answers = 0;
    private int answersOfThis = 1;
    private int wrong = 0;

    Sentences() throws IOException {
        if (Files.isReadable(DOCUMENT)) {
            readDocument(Files.readString(DOCUMENT, StandardCharsets.UTF_8));
        }
    }

    private void readDocument(String document) {
        for (String part : document.split("(?m)^## ")) {
            Matcher promise = Pattern.compile("(Promise \\d+): .*\\s+`[^`]*`:").matcher(part);
            if (promise.lookingAt()) {
                add(promise.group(1), part.substring(promise.end()));
            } else if (part.startsWith("Terms")) {
                readTerms(part.substring("Terms".length()).replaceAll("(?m)^```.*$", ""));
            }
        }
    }

    private void readTerms(String terms) {
        for (String term : terms.split("(?m)^(?=[IV]+\\. )")) {
            int dot = term.indexOf('.');
            if (!term.isBlank()) {
                add("Term " + term.substring(0, dot), term.substring(dot + 1));
            }
        }
    }

    private void add(String heading, String text) {
        String plain = plain(text);
        words.put(heading, plain);
        named.put(heading, new boolean[plain.length()]);
    }

    private static String plain(String text) {
        return text.replaceAll("\\s+", " ").trim();
    }

    /** A test begins: that of a sentence, or of a part of one. */
    void says(String heading, String sentence) {
        endTest();
        current = heading + ", \"" + sentence + "\"";
        tests++;
        answersOfThis = 0;
        if (words.isEmpty()) {
            return;
        }
        int at = words.getOrDefault(heading, "").indexOf(sentence);
        if (at < 0) {
            tell("these are no words of the document");
        } else {
            Arrays.fill(named.get(heading), at, at + sentence.length(), true);
        }
    }

    void due(String call, long got, long want) {
        answers++;
        answersOfThis++;
        if (got != want) {
            tell(call + " answered " + got + ", due is " + want);
        }
    }

    /** Some other answer than the one that refuses. */
    void taken(String call, long got, long refusal) {
        answers++;
        answersOfThis++;
        if (got == refusal) {
            tell(call + " answered " + got + ", and is not to be refused");
        }
    }

    /**
     * Of each argument of a call the last values that are taken and the first that are refused, on both sides, while the
     * others are as told first; and the farthest that are refused.
     */
    void edges(String name, Call call, long refusal, int[] others, int[]... bounds) {
        for (int i = 0; i < others.length; i++) {
            for (int n : bounds[i]) {
                taken(name + with(others, i, n), call.answer(put(others, i, n)), refusal);
            }
            int[] beyond = {bounds[i][0] - 1, bounds[i][1] + 1, Integer.MIN_VALUE, Integer.MAX_VALUE};
            for (int n : beyond) {
                due(name + with(others, i, n), call.answer(put(others, i, n)), refusal);
            }
        }
    }

    private static int[] put(int[] given, int i, int n) {
        int[] other = given.clone();
        other[i] = n;
        return other;
    }

    private static String with(int[] given, int i, int n) {
        return Arrays.toString(put(given, i, n)).replace('[', '(').replace(']', ')');
    }

    private void tell(String what) {
        wrong++;
        if (wrong <= MOST_PRINTED) {
            System.out.println(current + ": " + what);
        }
    }

    private void endTest() {
        if (answersOfThis == 0) {
            tell("its test asks nothing");
        }
    }

    void finish() {
        endTest();
        current = "SentenceTest";
        if (words.isEmpty()) {
            System.out.println("SentenceTest: no " + DOCUMENT + " to hold the sentences against");
        }
        for (Map.Entry<String, String> part : words.entrySet()) {
            findUnnamed(part.getKey(), part.getValue());
        }
        System.out.println("SentenceTest: " + tests + " sentences, " + answers + " answers, " + wrong + " not as due");
        if (wrong != 0 || answers == 0) {
            System.exit(1);
        }
    }

    private void findUnnamed(String heading, String text) {
        StringBuilder left = new StringBuilder();
        for (int i = 0; i < text.length(); i++) {
            left.append(named.get(heading)[i] ? ' ' : text.charAt(i));
        }
        if (Pattern.compile("[A-Za-z0-9]").matcher(left).find()) {
            tell(heading + ": no test names \"" + plain(left.toString()) + "\"");
        }
    }
}
