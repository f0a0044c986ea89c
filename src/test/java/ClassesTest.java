/** Promises 16 to 18: code, next, meeting. */
public final class ClassesTest {
    public static void main(String[] args) {
        Runs runs = new Runs("ClassesTest");
        code(runs);
        next(runs);
        meeting(runs);
        runs.end();
    }

    private static void code(Runs runs) {
        runs.run("16", "code(-1) -1; code(-2147483648) -1; code(0) 231; code(1) 312; code(2) 321; code(3) -5; code(2147483647) -5"
            + "; letters(2) 3; code(0) 21; code(1) -5; bottom(12) 1; code(0) 12; code(1) -5");
        runs.run("16 four letters", "letters(4) 3; bottom(3412) 1; code(0) 2341; code(1) 3412; code(2) 3421; code(3) 4123; code(4) 4231"
            + "; code(5) 4312; code(6) -5");
        runs.run("16 not whole", "letters(5) 3; bottom(21543) 1; code(0) 21453; code(1) 21534; code(2) 21543; code(3) -5");
    }

    private static void next(Runs runs) {
        runs.run("17", "next(321, 0) 312; next(321, 1) 231; next(312, 0) 321; next(312, 1) 312; next(231, 0) 231; next(231, 1) 321"
            + "; next(132, 0) 132; next(132, 1) 132; next(123, 0) -5; next(213, 1) -5"
            + "; next(321, -1) -1; next(321, 2) -1; next(0, 2) -1; next(0, 0) -2; next(322, 1) -2; next(21, 0) -2; next(4321, 0) -2"
            + "; next(-321, 0) -2; next(2147483647, 0) -2; next(-2147483648, 1) -2; told(2) 321; count(4) 0");
        runs.run("17 by n", "letters(4) 3; next(321, 0) -2; next(4321, 0) 4132; next(4321, 1) 2431; next(2413, 0) 2431; next(2413, 1) 2413"
            + "; letters(5) 4; next(54321, 0) 51432; next(54321, 1) 25431");
    }

    private static void meeting(Runs runs) {
        runs.run("18", "meeting(0) 2; meeting(1) 3; meeting(2) 0; meeting(3) 1; meeting(4) -1; meeting(-1) -1; meeting(2147483647) -1"
            + "; letters(2) 3; meeting(0) 1; meeting(1) 2; meeting(2) 0; meeting(3) -1"
            + "; letters(4) 2; bottom(1234) 1; meeting(0) 0; meeting(3) 3; meeting(4) 4; meeting(5) -1");
        runs.run("18 by a changed top", "length(0, 5) 1; step() 1; told(2) 231; meeting(0) 1; meeting(1) 3; meeting(2) 2; meeting(3) 0");
    }
}
