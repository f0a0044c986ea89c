import java.util.ArrayList;
import java.util.List;
import java.util.Map;
import java.util.TreeMap;

/**
 * Laws that mathematics knows of interval exchanges, of which the document says nothing: they judge
 * the class without a second reading of the document, which could be wrong as the first one is.
 */
public final class LawsTest {
    private static final int TRIALS = 3000;
    private static final int MOST_POINTS = 120;
    /** How many WHOLE CODES there are, by how many their CLASS has and by GENUS: the known Rauzy classes. */
    private static final String[] CLASSES = {
        "{1 of genus 1=1}", "{3 of genus 1=3}", "{6 of genus 1=6, 7 of genus 2=7}",
        "{10 of genus 1=10, 11 of genus 2=11, 15 of genus 2=15, 35 of genus 2=35}"};

    private long state = 4711;
    private int looked = 0;
    private int wrong = 0;

    public static void main(String[] args) {
        LawsTest test = new LawsTest();
        for (int n = 2; n <= 5; n++) {
            test.classesAreTheKnownOnes(n);
        }
        for (int a = 1; a <= 99; a += 2) {
            for (int b = 1; b <= 99; b += 3) {
                test.twoLettersAreTurnedRound(a, b);
            }
        }
        for (int i = 0; i < TRIALS; i++) {
            test.stepsGoBack();
            test.stepsKeepWhatTheyMust();
            test.pointsGoRound();
            test.whatIsSeenFits();
        }
        System.out.println("LawsTest: " + test.looked + " looked at, " + test.wrong + " wrong");
        if (test.wrong != 0 || test.looked == 0) {
            System.exit(1);
        }
    }

    private int pick(int bound) {
        state = state * 6364136223846793005L + 1442695040888963407L;
        return (int) ((state >>> 33) % bound);
    }

    private void due(String law, Object got, Object want) {
        looked++;
        if (!got.equals(want)) {
            wrong++;
            if (wrong <= 20) {
                System.out.println("LawsTest, " + law + ": " + got + ", due is " + want);
            }
        }
    }

    private static List<Integer> codes(int n) {
        List<Integer> codes = new ArrayList<>(List.of(0));
        for (int place = 0; place < n; place++) {
            List<Integer> longer = new ArrayList<>();
            for (int begun : codes) {
                for (int digit = 1; digit <= n; digit++) {
                    if (Integer.toString(begun).indexOf('0' + digit) < 0) {
                        longer.add(10 * begun + digit);
                    }
                }
            }
            codes = longer;
        }
        return codes;
    }

    private void classesAreTheKnownOnes(int n) {
        Map<String, Integer> found = new TreeMap<>();
        for (int code : codes(n)) {
            SwappedIntervals x = new SwappedIntervals();
            x.letters(n);
            x.bottom(code);
            if (x.told(4) == 1) {
                found.merge(x.told(5) + " of genus " + x.told(8), 1, Integer::sum);
                everyWayLeadsBack(x, code);
            }
        }
        due("classes of " + n, found.toString(), CLASSES[n - 2]);
    }

    /** In the CLASS of a WHOLE CODE steps lead from each CODE to each other. */
    private void everyWayLeadsBack(SwappedIntervals x, int code) {
        x.keep();
        int many = x.told(5);
        for (int i = 0; i < many; i++) {
            x.bottom(code);
            int other = x.code(i);
            x.bottom(other);
            int far = x.told(6);
            due("from " + other + " to " + code, far == 0, other == code);
            due("from " + other + " to " + code, far >= 0 && far < many, true);
            due("the same class from " + other, x.told(5), many);
        }
    }

    /** By two LETTERS the LINE is turned round, and steps are those by which Euclid finds the greatest divisor. */
    private void twoLettersAreTurnedRound(int a, int b) {
        SwappedIntervals x = new SwappedIntervals();
        x.letters(2);
        x.length(0, a);
        x.length(1, b);
        int greater = a;
        int lesser = b;
        int steps = 0;
        while (lesser != 0) {
            steps += greater / lesser;
            int rest = greater % lesser;
            greater = lesser;
            lesser = rest;
        }
        String law = "two letters of " + a + ", " + b;
        due(law, x.told(9), greater);
        due(law, x.told(10), steps - 1);
        due(law, x.point(a - 1, 2), (a + b) / greater);
        due(law, x.point(a - 1, 0), (a - 1 + b) % (a + b));
        due(law, x.gone(0, 777), 777 * b % (a + b));
        due(law, x.odds(0) * (a + b), x.odds(1) * b);
        due(law, x.mean(0) * (a + b), x.mean(1) * 2 * a * b);
    }

    private SwappedIntervals some(int mostLength) {
        SwappedIntervals x = new SwappedIntervals();
        int n = 2 + pick(4);
        x.letters(n);
        List<Integer> codes = codes(n);
        x.bottom(codes.get(pick(codes.size())));
        for (int i = 0; i < n; i++) {
            x.length(i, 1 + pick(mostLength));
        }
        // Steps there and back lay TOP otherwise than bottom() does.
        for (int i = pick(6); i > 0; i--) {
            if (x.step() < 0) {
                x.back(pick(2));
            }
        }
        return x;
    }

    private static String rows(SwappedIntervals x) {
        StringBuilder rows = new StringBuilder();
        for (int i = 0; i < 15; i++) {
            rows.append(x.of(i / 3, i % 3)).append(' ');
        }
        return rows.toString();
    }

    private void stepsGoBack() {
        SwappedIntervals x = some(99);
        String before = rows(x);
        int kind = x.step();
        if (kind >= 0) {
            x.back(kind);
            due("a step there and back", rows(x), before);
        }
        kind = pick(2);
        if (x.back(kind) >= 0) {
            due("a step back and there", x.step(), kind);
            due("a step back and there", rows(x), before);
        }
    }

    private void stepsKeepWhatTheyMust() {
        SwappedIntervals x = some(99);
        int rounds = x.told(9);
        int whole = x.told(4);
        int corners = x.told(7);
        int ends = x.told(10);
        int points = x.told(1);
        int code = x.told(2);
        int kind = x.step();
        due("steps till the end", kind >= 0, ends > 0);
        if (kind >= 0) {
            due("rounds behind a step", x.told(9), rounds);
            due("whole behind a step", x.told(4), whole);
            due("corners behind a step", x.told(7), corners);
            due("steps left behind a step", x.told(10), ends - 1);
            due("fewer points behind a step", x.told(1) < points, true);
            due("the code behind a step", x.told(2), x.next(code, kind));
        }
    }

    private void pointsGoRound() {
        SwappedIntervals x = some(20);
        int points = x.told(1);
        if (points > MOST_POINTS) {
            return;
        }
        boolean[] met = new boolean[points];
        double lots = 0;
        int far = 0;
        int down = 0;
        for (int p = 0; p < points; p++) {
            int to = x.point(p, 0);
            due("two points go to one", met[to], false);
            met[to] = true;
            far += Math.abs(to - p);
            down += to < p ? 1 : 0;
            int period = x.point(p, 2);
            lots += 1.0 / period;
            due("a point is back", x.gone(p, period), p);
        }
        due("rounds by periods", (int) Math.round(lots), x.told(9));
        due("odds by points", x.odds(0) * points, x.odds(1) * down);
        due("mean by points", x.mean(0) * points, x.mean(1) * far);
    }

    private void whatIsSeenFits() {
        SwappedIntervals x = some(40);
        int n = x.told(0);
        for (int i = 0; i < 4; i++) {
            int p = pick(x.told(1));
            x.see(p, x.point(p, 0));
        }
        for (int letter = 0; letter < n; letter++) {
            int now = x.of(letter, 2);
            if (now <= 40) {
                due("what is so now fits", x.fits(letter, 0) >= 1 && x.fits(letter, 1) >= 1 && x.fits(letter, 1) <= now, true);
            }
        }
    }
}
