import java.util.ArrayList;
import java.util.List;
import java.util.regex.Matcher;
import java.util.regex.Pattern;

/**
 * Runs of calls on new objects. A run is a text of rows 'name(arguments) answer', parted by
 * semicolons or line ends; 'NO' is Long.MIN_VALUE; 'text <signs> answer' feeds the signs (a ; in
 * them is written as a comma), calls read() and looks at its answer. Behind each run it is looked
 * at whether its refused and its asking calls changed nothing.
 */
final class Runs {
    private static final Pattern CALL = Pattern.compile("(\\w+)\\(([^)]*)\\)\\s+(\\S+)");

    /** What the model answers is due as well: it keeps the answers written here from being wrong themselves. */
    private record Row(Calls.Said said, boolean hasDue, long due) { }

    private final String name;
    private int asked = 0;
    private int wrong = 0;

    Runs(String name) {
        this.name = name;
    }

    void run(String title, String rows) {
        List<Row> all = new ArrayList<>();
        for (String row : rows.split("[;\n]")) {
            String call = row.trim();
            if (call.startsWith("text ")) {
                addText(all, call.substring(5).trim());
            } else if (!call.isEmpty()) {
                all.add(row(call));
            }
        }
        if (all.size() > Calls.MOST_CALLS) {
            throw new IllegalArgumentException(title + " has " + all.size() + " calls");
        }
        List<Calls.Said> said = new ArrayList<>();
        List<Calls.Said> changing = new ArrayList<>();
        Calls x = new Calls.Real();
        Calls model = new Model();
        for (Row row : all) {
            long answer = row.said.on(x);
            due(title, row.said.toString(), answer, row.hasDue ? row.due : answer);
            due(title, "by the model, " + row.said, row.said.on(model), answer);
            said.add(row.said);
            if (Calls.mayChange(row.said.name(), answer)) {
                changing.add(row.said);
            }
        }
        if (said.size() + Drain.MOST_CALLS <= Calls.MOST_CALLS) {
            int part = Drain.unlikePart(() -> made(said), () -> made(changing));
            due(title, "refused and asking calls change nothing: part of what it holds", part, -1);
        }
    }

    private static Calls made(List<Calls.Said> calls) {
        Calls x = new Calls.Real();
        for (Calls.Said call : calls) {
            call.on(x);
        }
        return x;
    }

    private static void addText(List<Row> all, String row) {
        int cut = row.lastIndexOf(' ');
        String signs = row.substring(0, Math.max(cut, 0)).replace(',', ';');
        for (char sign : signs.toCharArray()) {
            all.add(new Row(new Calls.Said("feed", sign), false, 0));
        }
        all.add(new Row(new Calls.Said("read"), true, number(row.substring(cut + 1))));
    }

    private static Row row(String row) {
        Matcher m = CALL.matcher(row);
        if (!m.matches()) {
            throw new IllegalArgumentException("no row of a run: " + row);
        }
        String inside = m.group(2).trim();
        String[] words = inside.isEmpty() ? new String[0] : inside.split("\\s*,\\s*");
        long[] a = new long[words.length];
        for (int i = 0; i < a.length; i++) {
            a[i] = number(words[i]);
        }
        return new Row(new Calls.Said(m.group(1), a), true, number(m.group(3)));
    }

    private static long number(String word) {
        return word.equals("NO") ? Long.MIN_VALUE : Long.parseLong(word);
    }

    void due(String title, String call, long got, long want) {
        asked++;
        if (got != want) {
            wrong++;
            System.out.println(name + ", " + title + ": " + call + " answered " + got + ", due is " + want);
        }
    }

    void end() {
        System.out.println(name + ": " + asked + " answers looked at, " + wrong + " wrong");
        if (wrong != 0 || asked == 0) {
            System.exit(1);
        }
    }
}
