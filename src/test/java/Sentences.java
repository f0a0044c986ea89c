import java.io.IOException;
import java.nio.file.Files;
import java.nio.file.Path;
import java.util.BitSet;
import java.util.LinkedHashMap;
import java.util.Map;
import java.util.regex.Matcher;
import java.util.regex.Pattern;

/**
 * Tests of the document's sentences, each by the words that it tests: the words must stand in the
 * document, and no word of it that marks a boundary may be left without a test.
 */
final class Sentences {
    private static final Path DOCUMENT = Path.of("../shared/DOC.md");
    private static final Pattern BOUNDARY = Pattern.compile(
        "\\b(NONE|BAD|STATE|FULL|NO|NOTHING|CAST|PLACE|SIZE|FAULT|TIE)\\b|-\\d+|\\d+ \\.\\.|\\bat (most|least|first)\\b"
            + "|\\b(above|below|beyond|behind|too|none|no|nothing|isn't|aren't|must|whatever|alike|empty|refused|fewest|lowest|only|each)\\b");
    private static final Pattern WORD = Pattern.compile("[\\w-]+");

    /** Without the document the sentences are still tested, only not compared with it. */
    private final boolean hasDocument = Files.isReadable(DOCUMENT);
    private final Runs runs;
    private final Map<String, String> words = new LinkedHashMap<>();
    private final Map<String, BitSet> tested = new LinkedHashMap<>();
    private String section = "";
    private int tests = 0;
    private int wrong = 0;

    Sentences(String name) throws IOException {
        runs = new Runs(name);
        if (!hasDocument) {
            System.out.println(DOCUMENT + " is not there: what the tests quote is not looked up");
            return;
        }
        for (String part : Files.readString(DOCUMENT).split("(?m)^## ")) {
            String[] headAndRest = part.split("\n", 2);
            String head = headAndRest[0].trim();
            boolean isPromised = head.equals("What it is") || head.equals("Terms") || head.startsWith("Promise ");
            if (isPromised && headAndRest.length == 2) {
                words.put(head.split(":")[0], headAndRest[1].replaceAll("```\\w*", " ").replaceAll("\\s+", " ").trim());
                tested.put(head.split(":")[0], new BitSet());
            }
        }
    }

    void section(String head) {
        section = head;
        if (hasDocument && !words.containsKey(head)) {
            fail("the document has no part '" + head + "'");
        }
    }

    /** The words, as they stand in this section, hold for these runs, each on a new object. */
    void test(String said, String... rows) {
        tests++;
        if (hasDocument) {
            markTested(said);
        }
        for (String row : rows) {
            runs.run(section + ", '" + said + "'", row);
        }
    }

    private void markTested(String said) {
        String all = words.getOrDefault(section, "");
        int at = all.indexOf(said);
        if (at < 0) {
            fail("the document does not say so in '" + section + "': " + said);
        }
        for (; at >= 0; at = all.indexOf(said, at + 1)) {
            tested.get(section).set(at, at + said.length());
        }
    }

    /** The same row again and again, with # for its number. */
    static String counted(String row, int from, int to) {
        StringBuilder rows = new StringBuilder();
        for (int i = from; i <= to; i++) {
            rows.append(row.replace("#", Integer.toString(i)));
        }
        return rows.toString();
    }

    private void fail(String what) {
        wrong++;
        System.out.println(what);
    }

    /** Of a promise each word is to be tested, of the rest what marks a boundary. */
    private void lookForUntested() {
        for (String head : words.keySet()) {
            boolean isPromise = head.startsWith("Promise ");
            String all = words.get(head);
            Matcher m = (isPromise ? WORD : BOUNDARY).matcher(all);
            int from = isPromise ? all.indexOf("`: ") + 3 : 0;
            for (boolean found = m.find(from); found; found = m.find()) {
                if (tested.get(head).nextClearBit(m.start()) < m.end()) {
                    String near = all.substring(Math.max(0, m.start() - 40), Math.min(all.length(), m.end() + 40));
                    fail("no test of '" + m.group() + "' in '" + head + "': .. " + near + " ..");
                }
            }
        }
    }

    void end() {
        lookForUntested();
        System.out.println(tests + " sentences tested, " + wrong + " faults of the tests themselves");
        if (wrong != 0) {
            System.exit(1);
        }
        runs.end();
    }
}
