import java.io.IOException;
import java.nio.file.Files;
import java.nio.file.Path;
import java.util.Arrays;
import java.util.BitSet;
import java.util.LinkedHashMap;
import java.util.Map;
import java.util.function.Supplier;
import java.util.function.ToLongFunction;

/**
 * Tests that stand each under the words of the document whose boundary case they hold. The words
 * must be the document's own, and the words of all tests together must leave none of its out.
 */
final class Edges {
    private static final Path DOCUMENT = Path.of("../shared/DOC.md");

    private final Check check;
    /** Part of the document (Terms, Promise 1, ..) to its words; none, if there is no document. */
    private final Map<String, String> parts = new LinkedHashMap<>();
    private final Map<String, BitSet> quoted = new LinkedHashMap<>();
    private String part = "";
    private String words = "";
    private int asked = 0;

    Edges(Check check) throws IOException {
        this.check = check;
        if (Files.exists(DOCUMENT)) readDocument(Files.readString(DOCUMENT));
        else System.out.println("there is no " + DOCUMENT + ": the words of the tests are not held against it");
    }

    private void readDocument(String document) {
        for (String section : document.split("\n## ")) {
            String title = section.lines().findFirst().orElse("").replaceAll(":.*", "");
            if (!title.equals("Terms") && !title.startsWith("Promise ")) continue;
            StringBuilder body = new StringBuilder();
            section.lines().skip(1).filter(line -> !line.startsWith("```") && !line.startsWith("Ahead of the calls"))
                .forEach(line -> body.append(line).append(' '));
            parts.put(title, plain(body.toString().replaceAll("`[^`]*`", " ").replaceAll("={8} [0-9] ", " ")));
            quoted.put(title, new BitSet());
        }
    }

    private static String plain(String words) {
        return words.replaceAll("\\s+", " ").trim();
    }

    void part(String name) {
        part = name;
    }

    void edge(String newWords, Runnable test) {
        words = part + ", \"" + newWords + "\": ";
        quote(newWords);
        asked = 0;
        test.run();
        check.due(words + "asks something", asked > 0 ? 1 : 0, 1);
    }

    private void quote(String newWords) {
        if (parts.isEmpty()) return;
        String all = parts.getOrDefault(part, "");
        int at = all.indexOf(plain(newWords));
        check.due(words + "are words of the document", at >= 0 ? 1 : 0, 1);
        if (at >= 0) quoted.get(part).set(at, at + plain(newWords).length());
    }

    /** Prints each stretch of the document's words that no test stands under. */
    void noneIsLeftOut() {
        for (String name : parts.keySet()) {
            char[] left = parts.get(name).toCharArray();
            quoted.get(name).stream().forEach(i -> left[i] = '\n');
            String unquoted = new String(left).replaceAll("[^A-Za-z0-9\n]+", " ").replaceAll("\n+", "|").replaceAll("[| ]+", " ").trim();
            check.due(name + ", words without a test: " + unquoted, unquoted.length(), 0);
        }
    }

    void due(String call, long got, long want) {
        asked++;
        check.due(words + call, got, want);
    }

    /** Several answers of one sort, from the first number on. */
    void row(String call, int first, ToLongFunction<Integer> answer, long... want) {
        for (int k = 0; k < want.length; k++) due(call + " of " + (first + k), answer.applyAsLong(first + k), want[k]);
    }

    void tells(String text, int want) {
        HourWell x = new HourWell();
        due("tale() of '" + text + "'", Check.tell(x, text), want);
        due("bytes left of '" + text + "'", x.count(7), want < 0 ? text.length() : 0);
    }

    void fault(String ahead, String behind) {
        tells(ahead + behind, -10 - ahead.length());
    }

    /** The call answers what is due, and but for that all is as with an object that it was not asked of. */
    void leaves(String call, Supplier<HourWell> setup, ToLongFunction<HourWell> asks, long want) {
        HourWell asked = setup.get();
        HourWell other = setup.get();
        due(call, asks.applyAsLong(asked), want);
        long[] got = Sight.of(asked);
        due(call + " changes nothing", Arrays.mismatch(got, Sight.of(other)), -1);
    }
}
