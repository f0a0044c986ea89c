import java.util.regex.Matcher;
import java.util.regex.Pattern;

/**
 * Runs of calls on new objects. A run is a text of rows 'name(arguments) answer', parted by
 * semicolons or line ends; 'NO' is Long.MIN_VALUE; 'text <signs> answer' feeds the signs (a ; in
 * them is written as a comma), calls read() and looks at its answer.
 */
final class Runs {
    private static final Pattern CALL = Pattern.compile("(\\w+)\\(([^)]*)\\)\\s+(\\S+)");

    private final String name;
    private int asked = 0;
    private int wrong = 0;

    Runs(String name) {
        this.name = name;
    }

    void run(String title, String rows) {
        Calls x = new Calls.Real();
        for (String row : rows.split("[;\n]")) {
            String call = row.trim();
            if (call.startsWith("text ")) {
                readText(title, x, call.substring(5).trim());
            } else if (!call.isEmpty()) {
                ask(title, x, call);
            }
        }
    }

    private void readText(String title, Calls x, String row) {
        int cut = row.lastIndexOf(' ');
        String signs = row.substring(0, Math.max(cut, 0)).replace(',', ';');
        for (char sign : signs.toCharArray()) {
            x.call("feed", sign);
        }
        due(title, "read of '" + signs + "'", x.call("read"), number(row.substring(cut + 1)));
    }

    private void ask(String title, Calls x, String row) {
        Matcher m = CALL.matcher(row);
        if (!m.matches()) {
            throw new IllegalArgumentException("no row of a run: " + row);
        }
        String inside = m.group(2).trim();
        String[] words = inside.isEmpty() ? new String[0] : inside.split("\\s*,\\s*");
        long[] a = new long[words.length];
        for (int i = 0; i < a.length; i++) {
            a[i] = number(words[i]);
        }
        due(title, row, x.call(m.group(1), a), number(m.group(3)));
    }

    private static long number(String word) {
        return word.equals("NO") ? Long.MIN_VALUE : Long.parseLong(word);
    }

    void due(String title, String call, long got, long want) {
        asked++;
        if (got != want) {
            wrong++;
            System.out.println(name + ", " + title + ": " + call + " answered " + got + ", due is " + want);
        }
    }

    void end() {
        System.out.println(name + ": " + asked + " answers looked at, " + wrong + " wrong");
        if (wrong != 0 || asked == 0) {
            System.exit(1);
        }
    }
}
