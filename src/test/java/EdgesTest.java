import java.util.ArrayList;
import java.util.Arrays;
import java.util.List;

/**
 * Every call with every mix of edge numbers, in many states: it ends, it answers as the model does,
 * and if it is refused or asking it changes nothing, neither what can be asked for nor what only
 * later calls bring to light.
 */
public final class EdgesTest {
    private static final long[] EDGES = {
        Long.MIN_VALUE, Integer.MIN_VALUE, -2, -1, 0, 1, 2, 3, 5, 6, 60, 61, 99, 100, 321, 499, 500, 9999, 10000, 54321, Integer.MAX_VALUE};
    private static final int BATCH = 100;
    private static final String[] STATES = {
        "", "letters 2", "letters 5;length 0 99;length 1 99;length 2 99;length 3 99;length 4 99;bottom 25431",
        "bottom 123;see 0 0;see 1 1;see 2 2;see 3 3", "length 0 5;step;swap 0 1;image;event 0 0;event 1 2;event 2 1;book 0 3;book 2 1",
        "letters 4;see 7 8;event 1 3;book 3 9;image;letters 2;tape 0 1 60;tape 1 1 0;tape 2 3 9;tape 3 4 2;tape 4 0 8;item 0 3 1",
        "feed 115;feed 59;length 0 2;length 0 3;length 0 4;length 0 5;length 0 6;length 0 7;length 0 8;length 0 9;length 0 8;length 0 7"
            + ";length 0 6;length 0 5;length 0 4;book 0 1;book 0 1;book 0 1;book 0 1;book 0 1;book 0 1;book 0 1;book 0 1"
            + ";event 0 0;event 0 0;event 0 0;event 0 0;event 0 0;event 0 0;event 0 0;event 0 0"};

    private static int made = 0;
    private static int wrong = 0;

    private final List<Calls.Said> state = new ArrayList<>();
    private final List<Calls.Said> quiet = new ArrayList<>();
    private Calls model = null;

    private EdgesTest(String calls) {
        for (String call : calls.split(";")) {
            String[] words = call.split(" ");
            if (!words[0].isEmpty()) {
                state.add(new Calls.Said(words[0], Arrays.stream(words).skip(1).mapToLong(Long::parseLong).toArray()));
            }
        }
    }

    public static void main(String[] args) {
        for (String calls : STATES) {
            EdgesTest test = new EdgesTest(calls);
            for (String face : Calls.FACE) {
                String[] call = face.split("/");
                test.fill(call[0], new long[Integer.parseInt(call[1])], 0);
            }
            test.lookAtQuiet();
        }
        System.out.println("EdgesTest: " + made + " calls made, " + wrong + " wrong");
        if (wrong != 0 || made == 0) {
            System.exit(1);
        }
    }

    private void fill(String name, long[] a, int from) {
        if (from == a.length) {
            look(new Calls.Said(name, a.clone()));
            return;
        }
        // Five arguments would make millions of mixes: shift goes through fewer.
        int stride = a.length == 5 ? 3 : 1;
        for (int i = from % stride; i < EDGES.length; i += stride) {
            boolean isInt = !(name.equals("item") && from == 2);
            if (isInt && EDGES[i] < Integer.MIN_VALUE) {
                continue;
            }
            a[from] = EDGES[i];
            fill(name, a, from + 1);
        }
    }

    private static Calls with(Calls x, List<Calls.Said> calls) {
        for (Calls.Said call : calls) {
            call.on(x);
        }
        return x;
    }

    private void look(Calls.Said call) {
        made++;
        if (model == null) {
            model = with(new Model(), state);
        }
        long answer = call.on(with(new Calls.Real(), state));
        long want = call.on(model);
        if (answer != want) {
            fail(call + " answered " + answer + ", the model answers " + want);
        }
        if (Calls.mayChange(call.name(), want)) {
            model = null;
        } else {
            quiet.add(call);
        }
    }

    private void lookAtQuiet() {
        for (int from = 0; from < quiet.size(); from += BATCH) {
            List<Calls.Said> batch = quiet.subList(from, Math.min(from + BATCH, quiet.size()));
            int part = Drain.unlikePart(() -> with(with(new Calls.Real(), state), batch), () -> with(new Calls.Real(), state));
            if (part != -1) {
                fail("one of these changed part " + part + " of what it holds: " + batch);
            }
        }
    }

    private void fail(String what) {
        wrong++;
        if (wrong <= 20) {
            System.out.println("EdgesTest, behind " + state + ": " + what);
        }
    }
}
