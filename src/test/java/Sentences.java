import java.io.IOException;
import java.nio.file.Files;
import java.nio.file.Path;
import java.util.ArrayList;
import java.util.HashMap;
import java.util.LinkedHashMap;
import java.util.List;
import java.util.Map;

/**
 * Tests that belong to one sentence of the document each. Every sentence that is quoted must stand in the
 * document, and every sentence of the document must be quoted by a test.
 */
final class Sentences {
    private static final String[] PARTS = {"PROGRAMS", "DEPTHS AND FLAWS", "STATES", "CHOICES", "RUNS", "ERRORS"};
    private static final int PROMISES = 29;

    private final Check check = new Check();
    private final Map<String, String> sections = new LinkedHashMap<>();
    private final Map<String, List<String>> quotes = new HashMap<>();
    private int tests = 0;

    Sentences(Path document) throws IOException {
        String text = Files.readString(document);
        sections.put("USE", between(text, "An object is used", "\n## "));
        for (String part : PARTS) sections.put(part, endOfPart(between(text, "\n" + part + "\n", "\nExamples: ")));
        for (int n = 1; n <= PROMISES; n++) {
            String section = between(text, "\n## Promise " + n + ": ", "\n## ");
            sections.put("Promise " + n, section.replaceAll("\n----[^\n]*", ""));
        }
    }

    private static String between(String text, String begin, String end) {
        int from = text.indexOf(begin);
        if (from < 0) throw new IllegalStateException("the document has no " + begin.strip());
        int to = text.indexOf(end, from + begin.length());
        return text.substring(from, to < 0 ? text.length() : to);
    }

    private static String endOfPart(String text) {
        int end = text.length();
        for (String part : PARTS) {
            int next = text.indexOf("\n" + part + "\n", 1);
            if (next > 0) end = Math.min(end, next);
        }
        return text.substring(text.indexOf('\n', 1), end);
    }

    private static String inOneLine(String text) {
        return text.replaceAll("\\s+", " ").strip();
    }

    /** Begins the test of a sentence. */
    void of(String section, String sentence) {
        tests++;
        check.about(section + ", \"" + sentence + "\"");
        check.isTrue("stands in the document", inOneLine(sections.get(section)).contains(sentence));
        quotes.computeIfAbsent(section, key -> new ArrayList<>()).add(sentence);
    }

    void ofPromise(int number, String sentence) {
        of("Promise " + number, sentence);
    }

    void due(String call, long got, long want) {
        check.due(call, got, want);
    }

    void isTrue(String claim, boolean holds) {
        check.isTrue(claim, holds);
    }

    void end() {
        for (String section : sections.keySet()) findUntested(section);
        System.out.println(tests + " tests of sentences");
        check.end();
    }

    // In a promise each clause needs a test, elsewhere each sentence or item of a list.
    private void findUntested(String section) {
        check.about(section);
        String breaks = section.startsWith("Promise") ? "\n- |\n\n|[.;](?=\\s)" : "\n- |\n\n|\\.(?=\\s)";
        List<String> pieces = new ArrayList<>(List.of((sections.get(section) + "\n").split(breaks)));
        if (section.startsWith("Promise")) pieces.subList(0, 2).clear();
        for (String piece : pieces) {
            String clause = inOneLine(piece).replaceAll("[.;:]$", "");
            if (!clause.isEmpty()) check.isTrue("a test of: " + clause, isQuoted(section, clause));
        }
    }

    private boolean isQuoted(String section, String clause) {
        for (String quote : quotes.getOrDefault(section, List.of())) {
            if (clause.contains(quote) || quote.contains(clause)) return true;
        }
        return false;
    }

    // ---- what several tests ask

    /** The text has this fault for this reason, both for fault() and for lay(); or none. */
    void fault(String text, int place, int reason) {
        StackStates x = new StackStates();
        Check.rewrite(x, text);
        due("fault of " + text, x.fault(), place);
        boolean none = place == StackStates.NONE;
        for (int asked = 0; asked < 2; asked++) {
            due("causes of " + text, x.count(9), none ? 0 : 2);
            due("cause 0 of " + text, x.cause(0), none ? StackStates.NONE : 1);
            due("cause 1 of " + text, x.cause(1), none ? StackStates.NONE : reason);
            if (none) return;
            due("lay of " + text, x.lay(), StackStates.NO);
        }
    }

    void noFault(String text) {
        fault(text, StackStates.NONE, 0);
    }

    /** The text can be laid, and has so many instructions. */
    void lays(String text, int size) {
        StackStates x = new StackStates();
        Check.rewrite(x, text);
        due("lay of " + text, x.lay(), size);
        due("instructions of " + text, x.count(0), size);
        due("causes of " + text, x.count(9), 0);
    }

    /** The text cannot be laid, for this flaw. */
    void flaw(String text, int kind, int number) {
        StackStates x = new StackStates();
        Check.rewrite(x, text);
        due("fault of " + text, x.fault(), StackStates.NONE);
        due("lay of " + text, x.lay(), StackStates.NO);
        int[] causes = {3, kind, 30 + number, StackStates.NONE};
        for (int i = 0; i < causes.length; i++) due("cause " + i + " of " + text, x.cause(i), causes[i]);
        due("the program after " + text, x.count(0), 16);
    }

    /** What the top cell is at the end of a run of the program. */
    static int result(String text) {
        StackStates x = Check.laid(text);
        x.start();
        x.step(500);
        return x.cell(0);
    }

    /** An object whose run of the program has executed so many steps. */
    static StackStates after(String text, int steps) {
        StackStates x = Check.laid(text);
        run(x, steps);
        return x;
    }

    static void run(StackStates x, int steps) {
        x.start();
        for (int done = 0; done < steps; done += 500) x.step(Math.min(500, steps - done));
    }
}
