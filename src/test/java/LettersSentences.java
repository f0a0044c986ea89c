/** Promises 1 to 11: boundary cases, a test for each sentence. */
final class LettersSentences {
    private LettersSentences() { }

    static void all(Sentences s) {
        newObject(s);
        letters(s);
        bottom(s);
        length(s);
        swap(s);
        step(s);
        back(s);
        takeBack(s);
        keep(s);
        feed(s);
        read(s);
    }

    private static void newObject(Sentences s) {
        s.section("Promise 1");
        s.test("Three LETTERS of LENGTH 1, BOTTOM 2, 1, 0.",
            "told(0) 3; told(1) 3; of(0, 2) 1; of(1, 2) 1; of(2, 2) 1; of(3, 2) -1; of(0, 1) 2; of(1, 1) 1; of(2, 1) 0; "
                + "of(0, 0) 0; of(1, 0) 1; of(2, 0) 2",
            "told(2) 321; told(3) 321; count(0) 0; count(1) 0; count(2) 0; count(3) 0; count(4) 0; looked() -5; after(0) 3; "
                + "fits(0, 0) 40; judge(0, 0) 100; peek(0, 0) NO",
            "undo() -3; takeBack() -3; read() -10; step() -3");
    }

    private static void letters(Sentences s) {
        s.section("Promise 2");
        s.test("There are n LETTERS, as at first (TOP, BOTTOM, LENGTHS, KEPT;",
            "letters(2) 3; told(0) 2; told(1) 2; told(2) 21; told(3) 21",
            "letters(5) 3; told(0) 5; told(1) 5; told(2) 54321; told(3) 54321",
            "length(0, 9) 1; step() 1; keep() 231; letters(4) 3; of(0, 0) 0; of(1, 0) 1; of(2, 0) 2; of(3, 0) 3; told(1) 4; "
                + "told(2) 4321; told(3) 4321; count(4) 0",
            "length(2, 9) 1; letters(2) 3; letters(3) 2; of(2, 2) 1",
            // What is told by hand, THE TEXT, the TAPES and THE IMAGE are not of it.
            "see(1, 2) 1; event(1, 2) 1; book(2, 9) 1; feed(107) 1; tape(0, 1, 3) 1; item(0, 2, 7) 1; image() 3; letters(2) 3; "
                + "count(0) 1; count(1) 1; count(2) 1; count(3) 1; peek(0, 2) 7; undo() 3; told(0) 3");
        s.test("be n as it was, too)",
            "length(0, 9) 1; step() 1; swap(0, 1) 1; keep() 213; letters(3) 3; of(1, 0) 1; of(2, 0) 2; told(1) 3; told(2) 321; "
                + "told(3) 321; takeBack() -3",
            "letters(5) 3; length(4, 99) 1; letters(5) 5; of(4, 2) 1",
            "letters(2) 3; bottom(12) 1; letters(2) 2; told(2) 21");
        s.test("how many there were.",
            "letters(3) 3; letters(2) 3; letters(4) 2; letters(5) 4; letters(5) 5; letters(2) 5; letters(6) -2; letters(3) 2");
        s.test("BAD.",
            "letters(1) -2; letters(6) -2; letters(0) -2; letters(-1) -2; letters(-3) -2; letters(2147483647) -2; "
                + "letters(-2147483648) -2; told(0) 3; told(1) 3",
            "length(0, 9) 1; step() 1; keep() 231; letters(1) -2; letters(6) -2; told(1) 10; told(2) 231; told(3) 231; "
                + "count(4) 2; takeBack() 1; of(0, 2) 9");
    }

    private static void bottom(Sentences s) {
        s.section("Promise 3");
        s.test("TOP becomes 0, 1, .., BOTTOM what a CODE tells: 1.",
            "length(0, 9) 1; step() 1; of(1, 0) 2; bottom(312) 1; of(0, 0) 0; of(1, 0) 1; of(2, 0) 2; of(0, 1) 2; of(1, 1) 0; "
                + "of(2, 1) 1; of(0, 2) 8; told(2) 312; told(3) 321; count(4) 0",
            "letters(2) 3; bottom(12) 1; of(0, 1) 0; of(1, 1) 1; bottom(21) 1; of(0, 1) 1; of(1, 1) 0",
            "letters(5) 3; bottom(12345) 1; of(0, 1) 0; of(4, 1) 4; bottom(54321) 1; of(0, 1) 4; of(4, 1) 0",
            "bottom(321) 1; told(2) 321");
        s.test("BAD: it is no CODE of n LETTERS.",
            // Too few digits, too many, 0 or one above n among them, one twice, below 0.
            "bottom(21) -2; bottom(1) -2; bottom(0) -2; bottom(4321) -2; bottom(3210) -2; bottom(1321) -2; bottom(320) -2; "
                + "bottom(324) -2; bottom(421) -2; bottom(322) -2; bottom(111) -2; bottom(-321) -2; bottom(-1) -2; "
                + "bottom(2147483647) -2; bottom(-2147483648) -2; told(2) 321",
            "letters(2) 3; bottom(11) -2; bottom(22) -2; bottom(13) -2; bottom(32) -2; bottom(2) -2; bottom(10) -2; "
                + "bottom(20) -2; bottom(321) -2; bottom(12) 1",
            "letters(5) 3; bottom(1234) -2; bottom(12346) -2; bottom(11234) -2; bottom(54320) -2; bottom(123456) -2; "
                + "bottom(112345) -2; bottom(154321) -2; bottom(12345) 1",
            "length(0, 9) 1; step() 1; bottom(322) -2; of(1, 0) 2; told(2) 231; count(4) 2; takeBack() 1");
    }

    private static void length(Sentences s) {
        s.section("Promise 4");
        s.test("LENGTH of a LETTER becomes v: what it was.",
            "length(0, 99) 1; length(0, 1) 99; length(0, 1) 1; length(2, 98) 1; of(0, 2) 1; of(2, 2) 98; told(1) 100",
            "letters(5) 3; length(4, 7) 1; of(4, 2) 7; of(3, 2) 1",
            // By LETTER, wherever it stands.
            "length(0, 9) 1; step() 1; of(1, 0) 2; length(1, 5) 1; of(1, 2) 5; of(2, 2) 1");
        s.test("NONE: letter;",
            "length(3, 1) -1; length(-1, 1) -1; length(4, 1) -1; length(2147483647, 1) -1; length(-2147483648, 1) -1; told(1) 3; "
                + "count(4) 0; letters(2) 3; length(2, 5) -1; letters(5) 2; length(4, 5) 1; length(5, 5) -1",
            "length(3, 0) -1; length(-1, 100) -1");
        s.test("BAD.",
            "length(0, 0) -2; length(0, 100) -2; length(0, -1) -2; length(2, 2147483647) -2; length(2, -2147483648) -2; "
                + "told(1) 3; count(4) 0",
            "length(1, 99) 1; length(1, 100) -2; of(1, 2) 99; count(4) 1");
    }

    private static void swap(Sentences s) {
        s.section("Promise 5");
        s.test("Two LETTERS change places in BOTTOM: 1.",
            "swap(0, 2) 1; of(0, 1) 0; of(1, 1) 1; of(2, 1) 2; of(0, 0) 0; of(2, 0) 2; swap(2, 0) 1; told(2) 321; swap(1, 2) 1; "
                + "told(2) 231; count(4) 3",
            "letters(5) 3; swap(0, 4) 1; told(2) 14325; swap(4, 3) 1; told(2) 15324",
            "letters(2) 3; swap(0, 1) 1; told(2) 12; swap(1, 0) 1; told(2) 21",
            "length(0, 9) 1; step() 1; swap(1, 2) 1; of(0, 1) 1; of(1, 1) 2; of(1, 0) 2; told(2) 321");
        s.test("NONE: either, one twice.",
            "swap(0, 3) -1; swap(3, 0) -1; swap(-1, 0) -1; swap(0, -1) -1; swap(3, 3) -1; swap(-1, -1) -1; "
                + "swap(2147483647, 0) -1; swap(0, -2147483648) -1; swap(0, 0) -1; swap(1, 1) -1; swap(2, 2) -1; told(2) 321; "
                + "count(4) 0",
            "letters(2) 3; swap(0, 2) -1; swap(2, 1) -1; letters(5) 2; swap(0, 5) -1; swap(4, 4) -1; swap(4, 0) 1");
    }

    private static void step(Sentences s) {
        s.section("Promise 6");
        s.test("A STEP: its KIND.",
            "length(2, 2) 1; step() 0; told(2) 312; of(2, 2) 1; count(4) 2",
            "length(0, 2) 1; step() 1; told(2) 231; of(0, 2) 1; count(4) 2",
            "length(0, 99) 1; length(2, 98) 1; step() 1; of(0, 2) 1; told(2) 231; step() -3; length(1, 99) 1; step() 0; "
                + "of(1, 2) 98; told(2) 231",
            "letters(2) 3; length(0, 3) 1; length(1, 2) 1; step() 1; told(2) 21; of(0, 2) 1; step() 0; of(1, 2) 1; step() -3",
            "letters(5) 3; length(4, 99) 1; step() 0; told(2) 51432; told(1) 102");
        s.test("STATE: there is none.",
            "step() -3; count(4) 0; told(1) 3; length(0, 50) 1; length(2, 50) 1; step() -3; count(4) 2; told(1) 101",
            "bottom(213) 1; length(2, 99) 1; step() -3; told(2) 213; told(1) 101; count(4) 1",
            "letters(2) 3; bottom(12) 1; length(0, 5) 1; step() -3");
    }

    private static void back(Sentences s) {
        s.section("Promise 7");
        s.test("A STEP BACK of a KIND (0, 1): how many POINTS there are.",
            "back(0) 4; told(2) 312; count(4) 1; told(1) 4",
            "back(1) 4; told(2) 231; count(4) 1; told(1) 4",
            "length(0, 7) 1; step() 1; told(1) 8; back(1) 9; of(0, 2) 7; told(2) 321",
            "length(2, 7) 1; step() 0; told(1) 8; back(0) 9; of(2, 2) 7; told(2) 321");
        s.test("NONE;",
            "back(2) -1; back(-1) -1; back(3) -1; back(2147483647) -1; back(-2147483648) -1; told(1) 3; count(4) 0",
            "bottom(213) 1; back(2) -1; back(-1) -1",
            "length(2, 99) 1; back(2) -1");
        s.test("STATE: there is no such LETTER behind;",
            "bottom(213) 1; back(0) -3; back(1) -3; count(4) 0; told(2) 213",
            "bottom(123) 1; length(2, 99) 1; length(1, 99) 1; back(0) -3; back(1) -3",
            "letters(2) 3; bottom(12) 1; back(0) -3; back(1) -3",
            "letters(5) 3; bottom(43215) 1; back(0) -3; back(1) -3; bottom(43251) 1; back(0) 6");
        s.test("BAD: a LENGTH would be above 99.",
            "length(2, 98) 1; back(0) 101; of(2, 2) 99; back(0) -2; of(2, 2) 99; told(2) 312; count(4) 2",
            "length(0, 98) 1; back(1) 101; of(0, 2) 99; back(1) -2; of(0, 2) 99; told(2) 231; count(4) 2",
            "length(2, 50) 1; length(1, 49) 1; back(0) 149; of(2, 2) 99",
            "length(2, 50) 1; length(1, 50) 1; back(0) -2; told(1) 101; told(2) 321; count(4) 2; length(0, 49) 1; back(1) 199",
            "length(0, 99) 1; length(1, 99) 1; length(2, 99) 1; back(0) -2; back(1) -2; told(1) 297");
    }

    private static void takeBack(Sentences s) {
        s.section("Promise 8");
        s.test("The latest DEED is taken back: how many still can be.",
            "length(0, 5) 1; length(0, 6) 5; takeBack() 1; of(0, 2) 5; takeBack() 0; of(0, 2) 1",
            "swap(0, 1) 1; takeBack() 0; told(2) 321",
            "back(0) 4; takeBack() 0; told(2) 321; told(1) 3",
            "back(1) 4; takeBack() 0; of(1, 0) 1; told(2) 321; told(1) 3",
            "length(0, 5) 1; step() 1; takeBack() 1; of(1, 0) 1; of(0, 2) 5; told(2) 321",
            Sentences.counted("swap(0, 1) 1; ", 1, 15) + "takeBack() 11; count(4) 11; told(2) 321",
            "swap(0, 1) 1; keep() 312; see(0, 0) 1; event(0, 0) 1; book(0, 1) 1; feed(107) 1; takeBack() 0; told(2) 321; "
                + "told(3) 312; count(0) 1; count(1) 1; count(2) 1; count(3) 1");
        s.test("STATE: none.",
            "takeBack() -3; length(0, 5) 1; takeBack() 0; takeBack() -3; of(0, 2) 1",
            "length(0, 5) 1; letters(3) 3; takeBack() -3; bottom(231) 1; takeBack() -3; told(2) 231",
            "keep() 321; see(0, 0) 1; event(0, 0) 1; book(0, 1) 1; tape(0, 0, 1) 1; image() 3; takeBack() -3");
    }

    private static void keep(Sentences s) {
        s.section("Promise 9");
        s.test("KEPT becomes the CODE of TOP, BOTTOM: it.",
            "keep() 321; bottom(123) 1; told(3) 321; keep() 123; told(3) 123; count(4) 0",
            "length(0, 5) 1; step() 1; of(1, 0) 2; keep() 231; told(3) 231; step() 1; told(3) 231; takeBack() 2; told(3) 231",
            "letters(2) 3; bottom(12) 1; keep() 12; told(3) 12",
            "letters(5) 3; bottom(12345) 1; keep() 12345; told(3) 12345; told(6) 0");
    }

    private static void feed(Sentences s) {
        s.section("Promise 10");
        s.test("A sign (0 .. 127) comes behind THE TEXT's: how many it has.",
            "feed(0) 1; feed(127) 2; feed(0) 3; count(3) 3",
            "feed(108) 1; feed(48) 2; feed(53) 3; read() 1; of(0, 2) 5; feed(107) 1",
            Sentences.counted("feed(127) #; ", 1, 100) + "count(3) 100; read() -10; feed(127) 1");
        s.test("BAD;",
            "feed(-1) -2; feed(128) -2; feed(255) -2; feed(256) -2; feed(-128) -2; feed(363) -2; feed(2147483647) -2; "
                + "feed(-2147483648) -2; count(3) 0",
            "feed(107) 1; feed(128) -2; count(3) 1; read() 1",
            Sentences.counted("feed(107) #; ", 1, 100) + "feed(128) -2; feed(-1) -2; count(3) 100");
        s.test("FULL.",
            Sentences.counted("feed(107) #; ", 1, 100) + "feed(107) -4; feed(0) -4; feed(127) -4; count(3) 100; read() -11; "
                + "count(3) 0; feed(107) 1; read() 1");
    }

    private static void read(Sentences s) {
        s.section("Promise 11");
        s.test("THE TEXT, which is empty then (by a FAULT, too), is a set-up: how many CLAUSES were done;",
            "feed(107) 1; read() 1; count(3) 0; read() -10; feed(107) 1; read() 1",
            "feed(120) 1; count(3) 1; read() -10; count(3) 0; feed(107) 1; count(3) 1; read() 1",
            Sentences.counted("feed(59) #; ", 1, 100) + "read() -10; count(3) 0; read() -10",
            "text s 0; count(3) 0",
            "text k,s,k,u,k 3",
            "text k,k,k,k,k,k,k,k,k,k,k,k 12",
            "text n9,l00,l0100,l31,r322,r21,s,b2,w00,w03,u,n1 0; told(1) 3; count(4) 0",
            "text l05,l06,l07,l08 4; count(4) 4; takeBack() 3; of(0, 2) 7");
        s.test("-10 less the FAULT.",
            "read() -10",
            "text x -10",
            "text kx -11",
            "text k, -12",
            "text k,k,k,k,k,k,k,k,k,k,k,k,k -33",
            "text k,k,k,k,k,k,k,k,k,k,k,x -32",
            "text k,k,k,k,k,k,k,k,k,k,k, -32",
            "text l05,l06,l07,l08,x -26; of(0, 2) 1; count(4) 0",
            "letters(5) 3; keep() 54321; text n2,k,r12,q -19; told(0) 5; told(3) 54321");
    }
}
