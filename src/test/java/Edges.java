import java.io.IOException;
import java.nio.charset.StandardCharsets;
import java.nio.file.Files;
import java.nio.file.Path;
import java.util.LinkedHashMap;
import java.util.List;
import java.util.Map;
import java.util.function.Supplier;
import java.util.function.ToLongFunction;

/**
 * Tests of single sentences of the document. Each begins with says(): the words stand in the document
 * just so, and what is due behind them belongs to them. At the end no word of a promise or of the
 * terms is left that no test has told.
 */
final class Edges {
    static final int NONE = -1, BAD = -2, NOT = -3, FULL = -4;
    static final int NULL = -11, INDEX = -12, CAST = -13, STORE = -14, SIZE = -15;
    static final int LOW = Integer.MIN_VALUE, HIGH = Integer.MAX_VALUE;
    static final int PROMISES = 41;

    private static final String TERMS = "Terms";
    private static final String BEGINNING = "What it is";
    private static final Map<String, String> SECTIONS = new LinkedHashMap<>();
    private static final Map<String, boolean[]> TOLD = new LinkedHashMap<>();
    private static String sentence = "";
    private static int checksBefore = 0;
    private static int sentences = 0;

    private Edges() {
    }

    /** Takes the document's sections in, each in one row, without the calls' heads. */
    static void read(Path document) throws IOException {
        if (!Files.exists(document)) {
            System.out.println(document + " is not there: the sentences are not compared with it");
            return;
        }
        String text = Files.readString(document, StandardCharsets.UTF_8);
        for (String section : text.split("(?m)^## ")) {
            String title = section.lines().findFirst().orElse("").replaceFirst("^(Promise \\d+):.*", "$1").trim();
            String body = section.lines().skip(1).reduce("", (a, b) -> a + " " + b).replaceAll("\\s+", " ").trim();
            SECTIONS.put(title, title.startsWith("Promise") ? body.replaceFirst("^`[^`]*`: ", "") : body);
            TOLD.put(title, new boolean[SECTIONS.get(title).length()]);
        }
    }

    static void says(int promise, String words) {
        begin("Promise " + promise, words);
    }

    static void termsSay(String words) {
        begin(TERMS, words);
    }

    static void beginningSays(String words) {
        begin(BEGINNING, words);
    }

    private static void begin(String title, String words) {
        endSentence();
        sentence = title + ": \"" + words + "\"";
        sentences++;
        String text = SECTIONS.getOrDefault(title, "");
        int at = text.indexOf(words);
        Due.due(sentence + " stands in the document", at >= 0 || SECTIONS.isEmpty());
        for (; at >= 0; at = text.indexOf(words, at + 1)) {
            for (int i = 0; i < words.length(); i++) {
                TOLD.get(title)[at + i] = true;
            }
        }
        checksBefore = Due.checks();
    }

    private static void endSentence() {
        if (sentences > 0) {
            Due.due(sentence + " has a test", Due.checks() > checksBefore);
        }
    }

    static void due(String call, long got, long want) {
        Due.due(sentence + " " + call, got, want);
    }

    /** The call is refused, and nothing has changed but, by a finding, count(5). */
    static void refused(String call, Supplier<WordWheel> state, ToLongFunction<WordWheel> asked, long want) {
        WordWheel x = state.get();
        int finding = want <= NULL && want >= SIZE ? (int) (-10 - want) : x.count(5);
        due(call, asked.applyAsLong(x), want);
        dueUnchanged(call, state, x, finding);
    }

    /** The least int is the answer; the finding is 0 if it is a BAD one. */
    static void refusedGet(String call, Supplier<WordWheel> state, ToLongFunction<WordWheel> asked, int finding) {
        WordWheel x = state.get();
        int latest = finding == 0 ? x.count(5) : finding;
        due(call, asked.applyAsLong(x), LOW);
        dueUnchanged(call, state, x, latest);
    }

    private static void dueUnchanged(String call, Supplier<WordWheel> state, WordWheel x, int finding) {
        due(call + ", then count(5)", x.count(5), finding);
        List<String> was = Shown.of(state.get());
        List<String> is = Shown.of(x);
        for (int i = 0; i < was.size() && i < is.size(); i++) {
            if (!was.get(i).equals(is.get(i))) {
                Due.due(sentence + " " + call + " is refused, but then " + is.get(i) + ", which was " + was.get(i), false);
                return;
            }
        }
        Due.due(sentence + " " + call + " changes nothing", was.size() == is.size());
    }

    /** Every word of the promises, and of the terms up to the heads of the interface, has been told. */
    static void dueAllTold() {
        endSentence();
        System.out.println(sentences + " sentences");
        if (SECTIONS.isEmpty()) {
            return;
        }
        for (int promise = 1; promise <= PROMISES; promise++) {
            dueTold("Promise " + promise, SECTIONS.getOrDefault("Promise " + promise, "").length());
        }
        int end = SECTIONS.getOrDefault(TERMS, "").indexOf("Ahead of the calls");
        Due.due("the terms end ahead of the interface's heads", end > 0);
        dueTold(TERMS, end);
    }

    private static void dueTold(String title, int end) {
        Due.due(title + " is there", end > 0);
        StringBuilder left = new StringBuilder();
        for (int i = 0; i < end; i++) {
            left.append(TOLD.get(title)[i] ? '|' : SECTIONS.get(title).charAt(i));
        }
        String words = left.toString().replaceAll("======== \\d|```text|```", " ").replaceAll("[|\\s,;:.()]+", " ").trim();
        Due.due(title + ": no test tells \"" + words + "\"", words.isEmpty());
    }
}
