import java.util.ArrayList;
import java.util.List;

/** Where all cases of a kind can be gone through, they are, on the class and on the model. */
public final class EveryTest {
    private static final String SIGNS = "nlrsbwku;01239 x";
    private static final int TEXT_LENGTH = 4;

    private long answers = 0;
    private int wrong = 0;
    private Calls real;
    private Calls model;
    private int made = 0;

    public static void main(String[] args) {
        EveryTest test = new EveryTest();
        for (int n = 2; n <= 5; n++) {
            List<Integer> codes = new ArrayList<>();
            addCodes(codes, n, 0, 0);
            for (int code : codes) {
                test.shape(n, code);
            }
            test.waysToKept(n, codes);
        }
        test.noCodes();
        test.texts("");
        for (int v = 1; v <= 99; v++) {
            for (int w = 1; w <= 99; w++) {
                test.pairOfLengths(v, w);
            }
        }
        System.out.println("EveryTest: " + test.answers + " answers alike but for " + test.wrong);
        if (test.wrong != 0) {
            System.exit(1);
        }
    }

    private static void addCodes(List<Integer> codes, int n, int begun, int used) {
        if (Integer.bitCount(used) == n) {
            codes.add(begun);
        }
        for (int digit = 1; digit <= n; digit++) {
            if ((used >> digit & 1) == 0) {
                addCodes(codes, n, 10 * begun + digit, used | 1 << digit);
            }
        }
    }

    private void begin() {
        real = new Calls.Real();
        model = new Model();
        made = 0;
    }

    private void beginIfNeeded(int calls) {
        if (real == null || made + calls > Calls.MOST_CALLS) {
            begin();
        }
    }

    private void alike(String name, long... a) {
        made++;
        answers++;
        long got = real.call(name, a);
        long want = model.call(name, a);
        if (made > Calls.MOST_CALLS) {
            throw new IllegalStateException("too many calls");
        }
        if (got != want) {
            wrong++;
            if (wrong <= 20) {
                System.out.println("EveryTest: " + new Calls.Said(name, a) + " answered " + got + ", the model answers " + want);
            }
        }
    }

    private void shape(int n, int code) {
        begin();
        alike("letters", n);
        alike("bottom", code);
        for (int what = 0; what <= 10; what++) {
            alike("told", what);
        }
        for (int i = 0; i < 40; i++) {
            alike("code", i);
        }
        for (int kind = 0; kind < 2; kind++) {
            alike("next", code, kind);
            alike("back", kind);
            alike("told", 2);
            alike("takeBack");
        }
        for (int meeting = -1; meeting <= n + 1; meeting++) {
            alike("meeting", meeting);
        }
        for (int letter = 0; letter < n; letter++) {
            alike("length", letter, 2 + 3 * letter);
        }
        for (int step = 0; step < 30; step++) {
            alike("step");
            alike("told", 2);
            alike("of", n - 1, 0);
        }
    }

    private void waysToKept(int n, List<Integer> codes) {
        for (int i = 0; i < codes.size(); i++) {
            for (int j = i % 7; j < codes.size(); j += n == 5 ? 7 : 1) {
                beginIfNeeded(6);
                alike("letters", n);
                alike("bottom", codes.get(i));
                alike("keep");
                alike("bottom", codes.get(j));
                alike("told", 6);
            }
        }
    }

    private void noCodes() {
        for (int n = 2; n <= 5; n++) {
            int end = n == 2 ? 1000 : n == 3 ? 10000 : 60000;
            for (int code = -1000; code < end; code++) {
                beginIfNeeded(3);
                alike("letters", n);
                alike("bottom", code);
                alike("next", code, code & 1);
            }
        }
    }

    private void texts(String text) {
        beginIfNeeded(text.length() + 8);
        for (char sign : text.toCharArray()) {
            alike("feed", sign);
        }
        alike("count", 3);
        alike("read");
        alike("count", 3);
        alike("count", 4);
        alike("told", 1);
        alike("told", 2);
        alike("told", 3);
        if (text.length() < TEXT_LENGTH) {
            for (char sign : SIGNS.toCharArray()) {
                texts(text + sign);
            }
        }
    }

    private void pairOfLengths(int v, int w) {
        beginIfNeeded(20);
        alike("letters", 2);
        alike("length", 0, v);
        alike("length", 1, w);
        alike("told", 9);
        alike("told", 10);
        for (int part = 0; part < 2; part++) {
            alike("odds", part);
            alike("mean", part);
            alike("back", part);
            alike("takeBack");
        }
        alike("point", v + w - 1, 2);
        alike("gone", v, 9999);
        alike("step");
        alike("told", 1);
    }
}
