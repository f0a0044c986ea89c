/** Promises 12 to 15: of, told, point, gone. */
public final class ToldTest {
    public static void main(String[] args) {
        Runs runs = new Runs("ToldTest");
        of(runs);
        told(runs);
        point(runs);
        gone(runs);
        runs.end();
    }

    private static void of(Runs runs) {
        runs.run("12", "of(0, -1) -1; of(0, 3) -1; of(-1, 0) -1; of(3, 0) -1; of(3, 2) -1; of(2, 1) 0; length(2, 8) 1; of(2, 2) 8"
            + "; letters(2) 3; of(2, 0) -1; letters(5) 2; of(4, 0) 4; of(4, 1) 0; of(5, 0) -1; of(-2147483648, 0) -1; of(0, 2147483647) -1");
    }

    private static void told(Runs runs) {
        runs.run("13 no such number", "told(-1) -1; told(11) -1; told(2147483647) -1; told(-2147483648) -1");
        runs.run("13 code by places of top", "length(0, 5) 1; step() 1; told(2) 231; of(1, 0) 2; of(0, 1) 2; of(1, 1) 1; of(2, 1) 0");
        runs.run("13 whole", "letters(4) 3; told(4) 1; bottom(1432) 1; told(4) 0; bottom(2143) 1; told(4) 0; bottom(3214) 1; told(4) 0"
            + "; bottom(2413) 1; told(4) 1; bottom(3142) 1; told(4) 1; letters(2) 4; told(4) 1; bottom(12) 1; told(4) 0");
        runs.run("13 whole by letters of a changed top", "length(0, 5) 1; step() 1; told(4) 1; swap(0, 2) 1; told(4) 0");
        runs.run("13 classes", "letters(2) 3; told(5) 1; bottom(12) 1; told(5) 1; letters(3) 2; told(5) 3; letters(4) 3; told(5) 7"
            + "; bottom(4132) 1; told(5) 7; bottom(3412) 1; told(5) 6; letters(5) 4; told(5) 15; bottom(53241) 1; told(5) 11"
            + "; bottom(52341) 1; told(5) 10; bottom(54231) 1; told(5) 35");
        runs.run("13 steps to kept", "told(6) 0; bottom(312) 1; told(6) 1; bottom(123) 1; told(6) -5; keep() 123; told(6) 0; bottom(321) 1; told(6) -5"
            + "; letters(4) 3; bottom(2413) 1; told(6) 3; keep() 2413; bottom(4321) 1; told(6) 2");
        runs.run("13 corners, genus", "told(7) 2; told(8) 1; letters(2) 3; told(7) 1; told(8) 1; letters(4) 2; told(7) 1; told(8) 2"
            + "; bottom(3412) 1; told(7) 3; told(8) 1; bottom(1234) 1; told(7) 5; told(8) -5; letters(5) 4; told(7) 2; told(8) 2");
        runs.run("13 rounds", "told(9) 2; bottom(123) 1; told(9) 3; length(0, 7) 1; told(9) 9; letters(2) 3; length(0, 6) 1; length(1, 4) 1; told(9) 2");
        runs.run("13 ends", "told(10) 0; length(0, 2) 1; told(10) 1; letters(2) 3; length(0, 99) 1; told(10) 98; length(1, 98) 1; told(10) 98"
            + "; length(1, 99) 98; told(10) 0; told(1) 198; bottom(12) 1; length(0, 5) 99; told(10) 0");
    }

    private static void point(Runs runs) {
        runs.run("14", "length(0, 2) 1; length(1, 3) 1; point(0, 0) 4; point(1, 0) 5; point(2, 0) 1; point(3, 0) 2; point(4, 0) 3; point(5, 0) 0"
            + "; point(0, 1) 0; point(1, 1) 0; point(2, 1) 1; point(4, 1) 1; point(5, 1) 2"
            + "; point(0, 2) 6; point(1, 2) 6; point(2, 2) 6; point(5, 2) 6"
            + "; point(6, 0) -1; point(-1, 0) -1; point(0, -1) -1; point(0, 3) -1; point(2147483647, 1) -1; point(-2147483648, 2) -1");
        runs.run("14 by a changed top", "length(0, 3) 1; step() 1; of(1, 0) 2; point(2, 1) 2; point(3, 1) 1; point(2, 0) 0; point(0, 0) 2; point(3, 0) 1");
        runs.run("14 one place", "bottom(123) 1; length(1, 9) 1; point(5, 0) 5; point(5, 2) 1; point(0, 2) 1; point(10, 0) 10; point(11, 0) -1");
    }

    private static void gone(Runs runs) {
        runs.run("15", "length(0, 2) 1; length(1, 3) 1; gone(0, 0) 0; gone(0, 1) 4; gone(0, 2) 3; gone(0, 3) 2; gone(0, 4) 1; gone(0, 9999) 2"
            + "; gone(0, 10000) -2; gone(0, -1) -2; gone(6, 0) -1; gone(-1, 0) -1; gone(6, -1) -1; gone(5, 2147483647) -2"
            + "; gone(5, -2147483648) -2; gone(1, 9999) 4; gone(1, 2) 0");
    }
}
