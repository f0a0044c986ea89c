import java.lang.management.ManagementFactory;
import java.nio.file.Files;
import java.nio.file.Path;
import java.util.ArrayList;
import java.util.List;
import java.util.regex.Matcher;
import java.util.regex.Pattern;

/** Rules of the language that can be seen in the source, and the room that a run of calls takes. */
public final class RulesTest {
    private static final String[] FORBIDDEN = {
        "throw", "throws", "try", "catch", "finally", "synchronized", "assert", "package", "protected", "volatile", "transient",
        "native", "strictfp", "yield", "var", "double", "float", "Object", "Exception", "Random", "Thread", "System.out", "System.err",
        "System.exit", "System.getenv", "System.getProperty", "System.currentTimeMillis", "System.nanoTime", "java.io", "java.nio",
        "java.time", "java.net", "hashCode", "toString", "goto"};

    private static int wrong = 0;

    private static void look(boolean so, String what) {
        if (!so) {
            wrong++;
            System.out.println("RulesTest: " + what);
        }
    }

    public static void main(String[] args) throws java.io.IOException {
        String source = Files.readString(Path.of("src/main/java/SwappedIntervals.java"));
        String code = source.replaceAll("(?s)/\\*.*?\\*/", " ").replaceAll("//[^\n]*", " ").replaceAll("'.'", "0");
        words(code);
        look(source.chars().allMatch(c -> c == '\n' || c >= 32 && c < 127), "a sign beyond plain ones");
        methodsAreShort(source);
        room();
        System.out.println("RulesTest: " + wrong + " wrong");
        if (wrong != 0) {
            System.exit(1);
        }
    }

    private static void words(String code) {
        for (String word : FORBIDDEN) {
            look(!Pattern.compile("(?<![\\w.])" + Pattern.quote(word) + "\\b").matcher(code).find(), "the word " + word);
        }
        look(!code.contains("->") && !code.contains("::"), "a lambda, an arrow or a method reference");
        look(!code.contains("Exact("), "a function whose name ends in Exact");
        Matcher imports = Pattern.compile("import ([\\w.]+);").matcher(code);
        while (imports.find()) {
            look(imports.group(1).matches("java\\.util\\.(Arrays|ArrayList|List|Iterator)"), "import of " + imports.group(1));
        }
        Matcher library = Pattern.compile("\\b(System|Arrays|Math|Integer|Long)\\.(\\w+)").matcher(code);
        while (library.find()) {
            String used = library.group();
            look(used.matches("System\\.arraycopy|Arrays\\.(fill|copyOf|copyOfRange)|Math\\.(min|max|abs)|Long\\.MIN_VALUE"), "the library's " + used);
        }
        Matcher loops = Pattern.compile("while\\s*\\(\\s*true|for\\s*\\(\\s*;\\s*;").matcher(code);
        look(!loops.find(), "a loop without an end");
    }

    private static void methodsAreShort(String source) {
        List<String> lines = source.lines().toList();
        int from = -1;
        String head = "";
        String indent = "";
        for (int i = 0; i < lines.size(); i++) {
            String row = lines.get(i);
            Matcher m = Pattern.compile("( {4}| {8})(?! |private static final class)\\S.*\\) \\{").matcher(row);
            if (from < 0 && m.matches() && !row.contains(" class ")) {
                from = i;
                head = row.trim();
                indent = m.group(1);
            } else if (from >= 0 && row.equals(indent + "}")) {
                look(i - from + 1 <= 60, "long: " + head);
                from = -1;
            }
        }
    }

    /** All arrays are made with the object, so calls make nothing, whatever their arguments are. */
    private static void room() {
        com.sun.management.ThreadMXBean bean = (com.sun.management.ThreadMXBean) ManagementFactory.getThreadMXBean();
        List<SwappedIntervals> objects = new ArrayList<>();
        for (int i = 0; i < 20; i++) {
            objects.add(new SwappedIntervals());
        }
        useAll(objects);
        long before = bean.getCurrentThreadAllocatedBytes();
        useAll(objects);
        long made = bean.getCurrentThreadAllocatedBytes() - before;
        look(made < 4096, "calls made " + made + " bytes of objects");
    }

    private static void useAll(List<SwappedIntervals> objects) {
        for (int o = 0; o < objects.size(); o++) {
            SwappedIntervals x = objects.get(o);
            for (int i = -2; i < 14; i++) {
                x.letters(2 + (i & 3)); x.bottom(4231); x.length(i, 7 * i); x.swap(i, 1); x.step(); x.back(i & 1); x.takeBack(); x.keep();
                x.feed('n'); x.feed('4'); x.feed(';'); x.feed('l'); x.feed('0'); x.feed('9'); x.read(); x.feed(i); x.read();
                x.of(i, 1); x.told(i); x.point(i, 2); x.gone(i, 999); x.code(i); x.next(4321, i & 1); x.meeting(i);
                x.see(i, 1); x.fits(i, 0); x.odds(0); x.mean(1); x.event(i, 0); x.after(1); x.book(i, 4); x.looked();
                x.tape(i, 1, 9); x.judge(i, 0); x.image(); x.undo(); x.count(i); x.item(i, 2, 3L); x.peek(i, 2); x.shift(i, 0, i, 2, 3);
            }
        }
    }
}
