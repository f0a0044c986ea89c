import java.lang.management.ManagementFactory;
import java.nio.file.Files;
import java.nio.file.Path;
import java.util.List;
import java.util.regex.Matcher;
import java.util.regex.Pattern;

/** Rules of the language that can be seen in the source, by their numbers, and the room that a run of calls takes. */
public final class RulesTest {
    private static final String[] FORBIDDEN = {
        "6 throw", "6 throws", "6 try", "6 catch", "6 finally", "6 synchronized", "6 assert", "1 package", "1 protected", "5 volatile",
        "3 Object", "6 Exception", "13 Random", "13 Thread", "13 Runtime", "3 Map", "3 Set", "3 Double", "3 Character", "3 Boolean",
        "4 String.format", "4 String.valueOf", "13 java.io", "13 java.nio", "13 java.time", "13 java.net", "6 hashCode"};
    /** The room is 7.3 million fields and elements: what has fewer bytes than that is within it. */
    private static final long MOST_BYTES = 7_300_000;

    private static int wrong = 0;

    private static void look(boolean so, String what) {
        if (!so) {
            wrong++;
            System.out.println("RulesTest, rule " + what);
        }
    }

    public static void main(String[] args) throws java.io.IOException {
        String source = Files.readString(Path.of("src/main/java/SwappedIntervals.java"));
        String code = source.replaceAll("(?s)/\\*.*?\\*/", " ").replaceAll("//[^\n]*", " ").replaceAll("'\\\\?.'", "0");
        words(code);
        library(code);
        forms(code);
        methodsAreShort(source);
        room();
        System.out.println("RulesTest: " + wrong + " wrong");
        if (wrong != 0) {
            System.exit(1);
        }
    }

    private static boolean has(String code, String pattern) {
        return Pattern.compile(pattern).matcher(code).find();
    }

    private static void words(String code) {
        for (String rule : FORBIDDEN) {
            String word = rule.substring(rule.indexOf(' ') + 1);
            look(!has(code, "(?<![\\w.])" + Pattern.quote(word) + "\\b"), rule.replace(" ", ": the word "));
        }
    }

    private static void library(String code) {
        Matcher imports = Pattern.compile("import ([\\w.*]+);").matcher(code);
        while (imports.find()) {
            look(imports.group(1).matches("java\\.util\\.(Arrays|ArrayList|List|Iterator)"), "4: import of " + imports.group(1));
        }
        Matcher used = Pattern.compile("\\b(System|Arrays|Math|Integer|Long)\\.(\\w+)").matcher(code);
        while (used.find()) {
            String name = used.group();
            boolean isListed = name.matches("System\\.arraycopy|Arrays\\.(fill|copyOf|copyOfRange)|(Math|Integer|Long)\\.\\w+");
            look(isListed && !name.endsWith("Exact") && !name.equals("Math.random"), "4: the library's " + name);
        }
    }

    private static void forms(String code) {
        String withoutArms = code.replaceAll("(case\\b[^;{}]*?|default\\s*)->", " ");
        look(!withoutArms.contains("->") && !code.contains("::"), "2: a lambda or a method reference");
        look(!has(code, "new\\s+\\w+\\s*(<[^;(){}]*>)?\\([^;{}]*\\)\\s*\\{"), "2: an anonymous class");
        look(!has(code, "\\bstatic\\s*\\{"), "5: a static initialiser");
        look(!has(code, "\\b(boolean\\s+equals|String\\s+toString)\\s*\\("), "6: equals or toString of an own class");
        look(!has(code, "while\\s*\\(\\s*true|for\\s*\\(\\s*;\\s*;"), "9: a loop without an end");
    }

    private static void methodsAreShort(String source) {
        List<String> lines = source.lines().toList();
        Pattern begin = Pattern.compile("( {4}| {8})(?! |private static final class)\\S.*\\) \\{");
        int from = -1;
        String head = "";
        String indent = "";
        for (int i = 0; i < lines.size(); i++) {
            String row = lines.get(i);
            Matcher m = begin.matcher(row);
            if (from < 0 && m.matches() && !row.contains(" class ")) {
                from = i;
                head = row.trim();
                indent = m.group(1);
            } else if (from >= 0 && row.equals(indent + "}")) {
                look(i - from + 1 <= 66, "11: long: " + head);
                from = -1;
            }
        }
    }

    /** A run of 512 calls with all that is dear in it, the making of the object among it. */
    private static void room() {
        com.sun.management.ThreadMXBean bean = (com.sun.management.ThreadMXBean) ManagementFactory.getThreadMXBean();
        useMuch();
        long before = bean.getCurrentThreadAllocatedBytes();
        useMuch();
        long taken = bean.getCurrentThreadAllocatedBytes() - before;
        look(taken < MOST_BYTES, "12: a run makes " + taken + " bytes of objects");
    }

    private static void useMuch() {
        SwappedIntervals x = new SwappedIntervals();
        x.letters(5);
        x.bottom(54231);
        for (int i = 0; i < 5; i++) {
            x.length(i, 95 + i);
        }
        for (int i = 0; i < 17; i++) {
            x.told(5); x.told(6); x.told(9); x.told(10); x.point(400, 2); x.gone(300, 9999); x.code(34); x.fits(i % 5, 0); x.odds(0); x.mean(0);
            x.swap(0, 1); x.back(0); x.takeBack(); x.event(0, 0); x.after(1); x.see(0, 0); x.book(0, 1); x.looked(); x.image(); x.undo();
            x.tape(i % 6, 3, 60); x.item(i % 6, 3, 7L); x.shift(i % 6, 0, i % 6, 1, 59); x.feed('k'); x.feed(';'); x.feed('s'); x.read(); x.next(54321, 0);
        }
    }
}
