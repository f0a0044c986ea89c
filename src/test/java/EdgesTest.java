import java.util.Arrays;
import java.util.Set;

/** Every call with every mix of edge numbers, in many states: it ends, and if refused or asking it changes nothing. */
public final class EdgesTest {
    private static final long[] EDGES = {
        Long.MIN_VALUE, Integer.MIN_VALUE, -2, -1, 0, 1, 2, 3, 5, 6, 60, 61, 99, 100, 321, 499, 500, 9999, 10000, 54321, Integer.MAX_VALUE};
    private static final Set<String> ASKING = Set.of("of", "told", "point", "gone", "code", "next", "meeting", "fits", "odds", "mean",
        "after", "looked", "judge", "count", "peek");
    private static final String[] STATES = {
        "", "letters 2", "letters 5;length 0 99;length 1 99;length 2 99;length 3 99;length 4 99;bottom 25431",
        "bottom 123;see 0 0;see 1 1;see 2 2;see 3 3", "length 0 5;step;swap 0 1;image;event 0 0;event 1 2;event 2 1;book 0 3;book 2 1",
        "letters 4;see 7 8;event 1 3;book 3 9;image;letters 2;tape 0 1 60;tape 1 1 0;tape 2 3 9;tape 3 4 2;tape 4 0 8;item 0 3 1",
        "feed 115;feed 59;length 0 2;length 0 3;length 0 4;length 0 5;length 0 6;length 0 7;length 0 8;length 0 9;length 0 8;length 0 7"
            + ";length 0 6;length 0 5;length 0 4;book 0 1;book 0 1;book 0 1;book 0 1;book 0 1;book 0 1;book 0 1;book 0 1"
            + ";event 0 0;event 0 0;event 0 0;event 0 0;event 0 0;event 0 0;event 0 0;event 0 0"};

    private static int asked = 0;
    private static int wrong = 0;

    public static void main(String[] args) {
        for (String state : STATES) {
            for (String face : Calls.FACE) {
                String[] call = face.split("/");
                long[] a = new long[Integer.parseInt(call[1])];
                fill(state, call[0], a, 0);
            }
        }
        System.out.println("EdgesTest: " + asked + " calls made, " + wrong + " wrong");
        if (wrong != 0) {
            System.exit(1);
        }
    }

    private static void fill(String state, String name, long[] a, int from) {
        if (from == a.length) {
            look(state, name, a);
            return;
        }
        // Five arguments would make millions of mixes: the later ones of shift go through fewer.
        int stride = a.length == 5 ? 3 : 1;
        for (int i = from % stride; i < EDGES.length; i += stride) {
            boolean isInt = !(name.equals("item") && from == 2);
            if (isInt && EDGES[i] < Integer.MIN_VALUE) {
                continue;
            }
            a[from] = EDGES[i];
            fill(state, name, a, from + 1);
        }
    }

    private static Calls made(String state) {
        Calls x = new Calls.Real();
        for (String call : state.split(";")) {
            String[] words = call.split(" ");
            if (!words[0].isEmpty()) {
                x.call(words[0], Arrays.stream(words).skip(1).mapToLong(Long::parseLong).toArray());
            }
        }
        return x;
    }

    private static Calls at = null;
    private static String atState = null;
    private static long[] atTold = null;

    /** A new object only behind a call that could have changed the last one: setting up takes the time here. */
    private static void look(String state, String name, long[] a) {
        if (at == null || !state.equals(atState)) {
            at = made(state);
            atState = state;
            atTold = told(at);
        }
        asked++;
        long answer = at.call(name, a);
        boolean mayChange = !ASKING.contains(name) && answer >= 0 || name.equals("read") || name.equals("image");
        if (mayChange) {
            at = null;
        } else if (!Arrays.equals(atTold, told(at))) {
            wrong++;
            System.out.println("EdgesTest, '" + state + "': " + name + Arrays.toString(a) + " answered " + answer + " and changed something");
            at = null;
        }
    }

    /** All that can be asked at no great cost. */
    private static long[] told(Calls x) {
        long[] told = new long[600];
        int k = 0;
        for (int i = 0; i <= 10; i++) {
            told[k++] = x.call("told", i);
        }
        for (int i = 0; i < 15; i++) {
            told[k++] = x.call("of", i / 3, i % 3);
        }
        for (int i = 0; i < 5; i++) {
            told[k++] = x.call("count", i);
            told[k++] = x.call("fits", i, 0);
            told[k++] = x.call("fits", i, 1);
        }
        for (int i = 0; i < 3; i++) {
            told[k++] = x.call("after", i);
        }
        told[k++] = x.call("looked");
        for (int tape = 0; tape < 6; tape++) {
            told[k++] = x.call("judge", tape, 0);
            told[k++] = x.call("shift", tape, 0, tape, 0, 0);
            for (int i = 0; i < 60; i++) {
                told[k++] = x.call("peek", tape, i);
            }
        }
        return told;
    }
}
