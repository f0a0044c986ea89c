import java.io.IOException;
import java.nio.file.DirectoryStream;
import java.nio.file.Files;
import java.nio.file.Path;
import java.util.regex.Matcher;
import java.util.regex.Pattern;

/** README.md: its examples answer as it says, and it names every call and every test. */
public final class ReadmeTest {
    private static final Pattern BLOCK = Pattern.compile("(?s)```java\n(.*?)```");
    private static final Pattern ROW = Pattern.compile("x\\.(\\w+\\([^)]*\\));\\s*// (-?\\d+)(:.*)?");
    private static final Pattern SIGN = Pattern.compile("'(.)'");

    public static void main(String[] args) throws IOException {
        String readme = Files.readString(Path.of("README.md"));
        Runs runs = new Runs("ReadmeTest");
        Matcher blocks = BLOCK.matcher(readme);
        for (int i = 1; blocks.find(); i++) {
            runs.run("example " + i, calls(blocks.group(1)));
        }
        for (String face : Calls.FACE) {
            String name = face.substring(0, face.indexOf('/'));
            runs.due("calls", "is " + name + " named", readme.contains("`" + name + "(") ? 1 : 0, 1);
        }
        try (DirectoryStream<Path> tests = Files.newDirectoryStream(Path.of("src/test/java"), "*Test.java")) {
            for (Path test : tests) {
                String name = test.getFileName().toString().replace(".java", "");
                runs.due("tests", "is " + name + " named", readme.contains("`" + name + "`") ? 1 : 0, 1);
            }
        }
        runs.end();
    }

    /** The first row makes the object; each other one is a call with its answer. */
    private static String calls(String block) {
        StringBuilder calls = new StringBuilder();
        String[] rows = block.split("\n");
        if (!rows[0].startsWith("SwappedIntervals x = new SwappedIntervals();")) {
            throw new IllegalArgumentException("no object is made: " + rows[0]);
        }
        for (int i = 1; i < rows.length; i++) {
            Matcher m = ROW.matcher(rows[i]);
            if (!m.matches()) {
                throw new IllegalArgumentException("no call with its answer: " + rows[i]);
            }
            String call = SIGN.matcher(m.group(1)).replaceAll(sign -> Integer.toString(sign.group(1).charAt(0)));
            calls.append(call).append(' ').append(m.group(2)).append('\n');
        }
        return calls.toString();
    }
}
