/** Promises 19 to 22: see, fits, odds, mean. */
public final class SeenTest {
    public static void main(String[] args) {
        Runs runs = new Runs("SeenTest");
        see(runs);
        fits(runs);
        fractions(runs);
        runs.end();
    }

    private static void see(Runs runs) {
        runs.run("19", "see(500, 0) -2; see(0, 500) -2; see(-2, 0) -2; see(0, -1) -2; see(0, 0) 1; see(499, 499) 2; see(0, 0) 3; see(1, 2) 4"
            + "; see(1, 2) -4; see(500, 2) -2; see(1, 500) -2; count(0) 4; see(-1, 2147483647) 0; count(0) 0; see(-1, -9) 0; see(3, 4) 1"
            + "; see(-2147483648, 0) -2; count(0) 1");
    }

    private static void fits(Runs runs) {
        runs.run("20 refused", "fits(-1, 0) -1; fits(3, 0) -1; fits(0, -1) -1; fits(0, 2) -1; fits(2147483647, 0) -1; fits(0, 0) 40; fits(2, 1) 1");
        // Point 0 of letter 0 goes behind letters 2 and 1.
        runs.run("20 one length", "see(0, 11) 1; fits(1, 0) 1; fits(1, 1) 10; fits(2, 0) 1; fits(2, 1) 10; fits(0, 0) 0; fits(0, 1) -5; of(1, 2) 1; told(1) 3");
        runs.run("20 many", "see(0, 2) 1; fits(0, 0) 40; fits(0, 1) 1; fits(1, 0) 1; see(4, 6) 2; fits(0, 0) 36; fits(0, 1) 5");
        runs.run("20 forty at most", "see(0, 41) 1; fits(1, 0) 1; fits(1, 1) 40; see(-1, 0) 0; see(0, 42) 1; fits(1, 0) 0; fits(1, 1) -5");
        runs.run("20 a point that there isn't", "see(3, 3) 1; bottom(123) 1; fits(0, 0) 39; fits(0, 1) 2; see(499, 499) 2; fits(0, 0) 0");
        runs.run("20 its own length is left out", "length(1, 99) 1; see(0, 2) 1; fits(1, 0) 1; fits(1, 1) 1; of(1, 2) 99; count(4) 1");
        runs.run("20 rows that contradict", "see(0, 2) 1; see(0, 3) 2; fits(0, 0) 0; fits(1, 0) 0");
    }

    private static void fractions(Runs runs) {
        runs.run("21", "odds(-1) NO; odds(2) NO; odds(0) 1; odds(1) 3; bottom(123) 1; odds(0) 0; odds(1) 1; letters(2) 3; odds(0) 1; odds(1) 2"
            + "; length(0, 2) 1; length(1, 4) 1; odds(0) 2; odds(1) 3; odds(2147483647) NO");
        runs.run("22", "mean(-1) NO; mean(2) NO; mean(0) 4; mean(1) 3; bottom(123) 1; mean(0) 0; mean(1) 1; letters(2) 3; mean(0) 1; mean(1) 1"
            + "; length(0, 2) 1; length(1, 4) 1; mean(0) 8; mean(1) 3; mean(-2147483648) NO");
        runs.run("22 the longest line", "letters(5) 3; length(0, 99) 1; length(1, 99) 1; length(2, 99) 1; length(3, 99) 1; length(4, 99) 1"
            + "; mean(0) 1188; mean(1) 5; odds(0) 2; odds(1) 5; told(9) 297; told(1) 495; point(494, 0) 98; point(495, 0) -1");
    }
}
