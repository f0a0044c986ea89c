import java.util.ArrayList;
import java.util.Arrays;
import java.util.List;

/** Long runs of calls, made by a fixed row of numbers, on the class and on the model: alike in every answer. */
public final class ModelTest {
    private static final int RUNS = 4000;
    private static final long[] WILD = {
        -1, 0, 1, 2, 3, 4, 5, 6, -2, 99, 100, 60, 61, 499, 500, 9999, 10000, 127, 128, Integer.MAX_VALUE, Integer.MIN_VALUE};
    private static final String SIGNS = "nlrsbwku;;;;0123456789x ";

    private long state;
    private long answers = 0;

    private int pick(int bound) {
        state = state * 6364136223846793005L + 1442695040888963407L;
        return (int) ((state >>> 33) % bound);
    }

    public static void main(String[] args) {
        ModelTest test = new ModelTest();
        for (int run = 0; run < RUNS; run++) {
            test.state = 77 + run * 1000003L;
            if (!test.oneRun(run)) {
                System.exit(1);
            }
        }
        System.out.println("ModelTest: " + test.answers + " answers alike");
    }

    /** As many calls as the document promises anything about, and no more. */
    private boolean oneRun(int run) {
        Calls real = new Calls.Real();
        Calls model = new Model();
        List<String> said = new ArrayList<>();
        while (said.size() < Calls.MOST_CALLS) {
            String text = pick(30) == 0 ? text() : "";
            if (!text.isEmpty() && said.size() + text.length() < Calls.MOST_CALLS) {
                for (char sign : text.toCharArray()) {
                    if (!alike(run, said, real, model, "feed", sign)) {
                        return false;
                    }
                }
                if (!alike(run, said, real, model, "read")) {
                    return false;
                }
                continue;
            }
            String[] call = Calls.FACE[pick(Calls.FACE.length)].split("/");
            if (!alike(run, said, real, model, call[0], arguments(call[0], Integer.parseInt(call[1])))) {
                return false;
            }
        }
        return true;
    }

    private boolean alike(int run, List<String> said, Calls real, Calls model, String name, long... a) {
        long got = real.call(name, a);
        long want = model.call(name, a);
        answers++;
        said.add(name + Arrays.toString(a) + " " + got);
        if (got != want) {
            System.out.println("ModelTest, run " + run + ": " + said + " the model answers " + want);
        }
        return got == want;
    }

    /** Mostly numbers that the call takes, now and then wild ones. */
    private long[] arguments(String name, int many) {
        long[] a = new long[many];
        for (int i = 0; i < many; i++) {
            a[i] = pick(14) == 0 ? WILD[pick(WILD.length)] : argument(name, i);
        }
        return a;
    }

    private long argument(String name, int i) {
        switch (name) {
            // Rarely another n, so that runs get somewhere between.
            case "letters": return pick(3) == 0 ? 2 + pick(4) : 9;
            case "bottom": return pick(3) == 0 ? code() : 0;
            case "length": return i == 0 ? pick(5) : pick(3) == 0 ? 1 + pick(99) : 1 + pick(9);
            case "feed": return SIGNS.charAt(pick(SIGNS.length()));
            case "told": return pick(12);
            case "point": return i == 0 ? pick(pick(2) == 0 ? 20 : 495) : pick(3);
            case "gone": return i == 0 ? pick(pick(2) == 0 ? 20 : 495) : pick(10000);
            case "code": return pick(36);
            case "next": return i == 0 ? code() : pick(2);
            case "see": return pick(pick(2) == 0 ? 12 : 60);
            case "event": return i == 0 ? pick(3) : pick(2);
            case "book": return i == 0 ? pick(5) : 1 + pick(4);
            case "tape": return i == 0 ? pick(4) : i == 1 ? pick(4) == 0 ? pick(6) - 1 : 1 : pick(8);
            case "item": return i == 0 ? pick(4) : i == 1 ? pick(7) : pick(2) == 0 ? 1 + pick(3) : state >> pick(60);
            case "shift": return i == 0 || i == 2 ? pick(4) : pick(4);
            case "peek": case "judge": return i == 0 ? pick(4) : pick(7);
            default: return pick(5);
        }
    }

    private long code() {
        List<Integer> digits = new ArrayList<>();
        int n = 2 + pick(4);
        for (int d = 1; d <= n; d++) {
            digits.add(pick(digits.size() + 1), d);
        }
        long code = 0;
        for (int d : digits) {
            code = code * 10 + d;
        }
        return code;
    }

    private String text() {
        StringBuilder text = new StringBuilder();
        int clauses = 1 + pick(13);
        for (int i = 0; i < clauses; i++) {
            text.append(i == 0 ? "" : ";").append(clause());
        }
        if (pick(4) == 0 && text.length() > 0) {
            text.setCharAt(pick(text.length()), SIGNS.charAt(pick(SIGNS.length())));
        }
        return text.toString();
    }

    private String clause() {
        switch (pick(10)) {
            case 0: return "n" + (pick(5) == 0 ? 2 + pick(4) : 9);
            case 1: return "r" + code();
            case 2: return "b" + pick(2);
            case 3: return "w" + pick(4) + pick(4);
            case 4: return "k";
            case 5: return "u";
            case 6: return "s";
            default: return "l" + pick(5) + (pick(6) == 0 ? "0" : "") + pick(70);
        }
    }
}
