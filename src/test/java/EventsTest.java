/** Promises 23 to 26: event, after, book, looked. */
public final class EventsTest {
    public static void main(String[] args) {
        Runs runs = new Runs("EventsTest");
        event(runs);
        after(runs);
        book(runs);
        looked(runs);
        runs.end();
    }

    private static void event(Runs runs) {
        runs.run("23 refused", "event(3, 0) -1; event(-2, 0) -1; event(1, 3) -1; event(1, -1) -1; event(2, 2) -1; event(2, -1) -1; event(0, 1) -2"
            + "; event(0, -1) -2; event(3, 9) -1; count(1) 0");
        runs.run("23 full", "event(0, 0) 1; event(1, 0) 2; event(1, 2) 3; event(2, 0) 4; event(2, 1) 5; event(0, 0) 6; event(0, 0) 7; event(0, 0) 8"
            + "; event(0, 0) -4; event(0, 1) -2; event(1, 3) -1; event(3, 0) -1; count(1) 8; event(-1, 2147483647) 0; count(1) 0; event(1, 1) 1");
        runs.run("23 by letters now", "letters(5) 3; event(1, 4) 1; letters(2) 5; event(1, 2) -1; event(1, 1) 2");
    }

    private static void after(Runs runs) {
        runs.run("24 refused", "after(-1) -1; after(3) -1; after(0) 3; after(1) 321; after(2) 1");
        runs.run("24 a step, a tie", "event(0, 0) 1; after(0) 3; after(1) 321; length(0, 3) 1; after(0) 4; after(1) 231; told(2) 321; told(1) 5; count(4) 1");
        runs.run("24 one more, 99 at most", "length(1, 98) 1; event(1, 1) 1; after(0) 101; event(1, 1) 2; after(0) 101; event(1, 0) 3; after(0) 102");
        runs.run("24 a letter that isn't there", "letters(5) 3; event(1, 4) 1; after(0) 6; letters(3) 5; after(0) 3; count(1) 1");
        runs.run("24 steps back", "event(2, 0) 1; after(0) 4; after(1) 312; event(2, 1) 2; after(0) 6; after(1) 312; bottom(213) 1; after(0) 3; after(1) 213; after(2) 0");
        runs.run("24 none above 99", "length(2, 99) 1; event(2, 0) 1; after(0) 101; after(1) 321; length(2, 98) 99; after(0) 101; after(1) 312");
        runs.run("24 in their order", "event(1, 0) 1; event(0, 0) 2; after(0) 3; after(1) 231; event(-1, 0) 0; event(0, 0) 1; event(1, 0) 2; after(0) 4; after(1) 321");
    }

    private static void book(Runs runs) {
        runs.run("25", "book(3, 1) -1; book(-2, 1) -1; book(3, 0) -1; book(0, 0) -2; book(0, 100) -2; book(0, 1) 1; book(0, 99) 2; book(2, 5) 3; book(1, 1) 4"
            + "; book(1, 1) 5; book(1, 1) 6; book(1, 1) 7; book(1, 1) 8; book(1, 1) -4; book(1, 0) -2; book(3, 1) -1; count(2) 8"
            + "; book(-1, -7) 0; count(2) 0; book(2, 3) 1");
    }

    private static void looked(Runs runs) {
        runs.run("26", "looked() -5; book(0, 1) 1; looked() -5; book(1, 7) 2; looked() 1; length(1, 7) 1; looked() -5; book(2, 1) 3; letters(2) 3; looked() 1"
            + "; length(1, 7) 1; looked() 2; length(0, 2) 1; looked() 0; book(-1, 0) 0; looked() -5");
    }
}
