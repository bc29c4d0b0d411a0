import java.io.IOException;
import java.nio.charset.StandardCharsets;
import java.nio.file.Files;
import java.nio.file.Path;
import java.util.LinkedHashMap;
import java.util.Map;
import java.util.function.Supplier;
import java.util.function.ToLongFunction;
import java.util.regex.Matcher;
import java.util.regex.Pattern;

/** DOC.md sentence by sentence: each is quoted where it is tried, and in the end none may be left. */
final class Edge {
    private final Map<String, String> parts = new LinkedHashMap<>();
    private final Map<String, boolean[]> quoted = new LinkedHashMap<>();
    private final Due due = new Due();
    private String words = "";
    private int asked;

    Edge(Path root) throws IOException {
        String doc = Files.readString(root.resolve("../shared/DOC.md"), StandardCharsets.UTF_8);
        String flat = doc.replaceAll("```(text)?", " ").replaceAll("\\s+", " ");
        add("Use", flat, "(An object is used for at most .*? is free\\.)");
        for (int n = 1; n <= 4; n++) {
            add("Terms " + n, flat, "==== " + n + " (.*?) (==== |Answers: )");
        }
        add("Answers", flat, "Answers: (.*?) The constants: ");
        add("Constants", flat, "The constants: (.*?) Ahead of the calls");
        for (int n = 1; n <= 36; n++) {
            add("Promise " + n, flat, "## Promise " + n + ": [^`]*`[^`]*`: (.*?) ## ");
        }
    }

    private void add(String part, String doc, String where) {
        Matcher found = Pattern.compile(where).matcher(doc);
        due.holds("DOC.md has " + part, found.find());
        parts.put(part, found.group(1));
        quoted.put(part, new boolean[found.group(1).length()]);
    }

    /** What is asked from here on is due by these words of that part. */
    void says(String part, String quote) {
        heard();
        words = part + ", '" + quote + "'";
        int from = parts.get(part).indexOf(quote);
        due.holds("the document says " + words, from >= 0);
        for (int c = Math.max(0, from); from >= 0 && c < from + quote.length(); c++) {
            quoted.get(part)[c] = true;
        }
        asked = 0;
    }

    void is(String call, long got, long want) {
        asked++;
        due.is(words + ": " + call, got, want);
    }

    /** A call with this answer, behind which all is as on its twin, that was not called. */
    void stays(String call, Supplier<ByLot> made, ToLongFunction<ByLot> asks, long want) {
        ByLot x = made.get();
        is(call, asks.applyAsLong(x), want);
        is(call + " changes nothing", Lands.seen(x).equals(Lands.seen(made.get())) ? 1 : 0, 1);
    }

    /** Asked twice: the answer is the same, and all is as on a twin that was not asked. */
    void only(String call, Supplier<ByLot> made, ToLongFunction<ByLot> asks) {
        ByLot x = made.get();
        long first = asks.applyAsLong(x);
        is(call + " once more", asks.applyAsLong(x), first);
        is(call + " changes nothing", Lands.seen(x).equals(Lands.seen(made.get())) ? 1 : 0, 1);
    }

    private void heard() {
        due.holds("something is asked of " + words, words.isEmpty() || asked > 0);
    }

    /** No word of these parts is without a test. */
    void end(String test) {
        heard();
        for (Map.Entry<String, String> part : parts.entrySet()) {
            StringBuilder rest = new StringBuilder();
            boolean[] told = quoted.get(part.getKey());
            for (int c = 0; c < told.length; c++) {
                rest.append(told[c] ? '.' : part.getValue().charAt(c));
            }
            String left = rest.toString().replaceAll("[. ]{2,}", " ").trim();
            due.holds(part.getKey() + " is all quoted, but for '" + left + "'", left.replaceAll("[. ]", "").isEmpty());
        }
        due.end(test);
    }
}
