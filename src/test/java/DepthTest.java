import java.io.IOException;
import java.io.PrintWriter;
import java.io.StringWriter;
import java.nio.file.DirectoryStream;
import java.nio.file.Files;
import java.nio.file.Path;
import java.util.ArrayList;
import java.util.HashMap;
import java.util.List;
import java.util.Map;
import java.util.Optional;
import java.util.Set;
import java.util.TreeSet;
import java.util.regex.Matcher;
import java.util.regex.Pattern;
import java.util.spi.ToolProvider;

/** Rules 4, 6, 8 and 11 of the language, as the compiled class shows them: what is called, and how deep. */
public final class DepthTest {
    private static final int MOST_DEEP = 8;
    private static final Pattern HEAD = Pattern.compile("  (?:[\\w$.\\[\\]]+ )*([\\w$]+)\\(.*\\);");
    private static final Pattern CALL = Pattern.compile("invoke\\w+\\s+#.*// (?:Interface)?Method (\\S+):");
    private static final Pattern LISTED = Pattern.compile(
        "java/lang/(Math\\.(max|min|abs)|System\\.arraycopy|Object\\.\"<init>\")|java/util/Arrays\\.fill");

    private final Map<String, Set<String>> calls = new HashMap<>();
    private final Set<String> faults = new TreeSet<>();

    public static void main(String[] args) throws IOException {
        Optional<ToolProvider> javap = ToolProvider.findFirst("javap");
        if (javap.isEmpty()) {
            System.out.println("DepthTest: there is no javap here, nothing looked at");
            return;
        }
        DepthTest test = new DepthTest();
        Path classes = Path.of(System.getProperty("java.class.path"));
        try (DirectoryStream<Path> files = Files.newDirectoryStream(classes, "SwappedIntervals*.class")) {
            for (Path file : files) {
                StringWriter shown = new StringWriter();
                javap.get().run(new PrintWriter(shown), new PrintWriter(System.err), "-p", "-c", file.toString());
                test.readClass(file.getFileName().toString().replace(".class", ""), shown.toString());
            }
        }
        int deepest = 0;
        for (String method : new TreeSet<>(test.calls.keySet())) {
            deepest = Math.max(deepest, test.depth(method, new ArrayList<>()));
        }
        System.out.println("DepthTest: " + test.calls.size() + " methods, " + deepest + " deep at most, wrong " + test.faults);
        if (deepest > MOST_DEEP || !test.faults.isEmpty() || test.calls.size() <= Calls.FACE.length) {
            System.exit(1);
        }
    }

    private void readClass(String name, String shown) {
        String method = "";
        for (String row : shown.split("\n")) {
            Matcher head = HEAD.matcher(row);
            if (head.matches()) {
                boolean isMaker = head.group(1).equals(name);
                method = name + "." + (isMaker ? "\"<init>\"" : head.group(1));
                calls.putIfAbsent(method, new TreeSet<>());
            }
            Matcher call = CALL.matcher(row);
            if (call.find()) {
                String called = call.group(1);
                calls.get(method).add(called.contains(".") ? called : name + "." + called);
            }
            if (row.matches(".*\\d+: (athrow|invokedynamic|monitorenter|checkcast)\\b.*") || row.contains("Exception table:")) {
                faults.add(method + ": " + row.trim());
            }
        }
    }

    private int depth(String method, List<String> open) {
        if (open.contains(method)) {
            faults.add("calls itself: " + method);
            return 0;
        }
        if (!calls.containsKey(method)) {
            if (!LISTED.matcher(method).matches()) {
                faults.add("not listed: " + method);
            }
            return 1;
        }
        open.add(method);
        int deepest = 0;
        for (String called : calls.get(method)) {
            deepest = Math.max(deepest, depth(called, open));
        }
        open.remove(open.size() - 1);
        return deepest + 1;
    }
}
