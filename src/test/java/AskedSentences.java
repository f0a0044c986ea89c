/** Promises 12 to 26: boundary cases, a test for each sentence. */
final class AskedSentences {
    private static final String LONGEST = "letters(5) 3; length(0, 99) 1; length(1, 99) 1; length(2, 99) 1; length(3, 99) 1; length(4, 99) 1; ";

    private AskedSentences() { }

    static void all(Sentences s) {
        of(s);
        told(s);
        point(s);
        gone(s);
        code(s);
        next(s);
        meeting(s);
        see(s);
        fits(s);
        fractions(s);
        event(s);
        after(s);
        book(s);
        looked(s);
    }

    private static void of(Sentences s) {
        s.section("Promise 12");
        s.test("The LETTER at place k (from 0) of TOP (what 0), of BOTTOM (1), LENGTH of LETTER k (2).",
            "of(0, 0) 0; of(2, 0) 2; of(0, 1) 2; of(2, 1) 0; length(2, 9) 1; of(2, 2) 9; of(0, 2) 1",
            "length(0, 9) 1; step() 1; of(0, 0) 0; of(1, 0) 2; of(2, 0) 1; length(2, 5) 1; of(2, 2) 5; of(1, 2) 1",
            "letters(5) 3; of(4, 0) 4; of(4, 1) 0; of(4, 2) 1; of(0, 1) 4");
        s.test("NONE: k, what.",
            "of(-1, 0) -1; of(3, 0) -1; of(3, 1) -1; of(3, 2) -1; of(-1, 2) -1; of(0, -1) -1; of(0, 3) -1; of(3, 3) -1; "
                + "of(2147483647, 0) -1; of(-2147483648, 1) -1; of(0, 2147483647) -1; of(0, -2147483648) -1",
            "letters(2) 3; of(1, 0) 1; of(2, 0) -1; of(2, 1) -1; of(2, 2) -1",
            "letters(5) 3; of(5, 0) -1; of(5, 1) -1; of(5, 2) -1");
    }

    private static void told(Sentences s) {
        s.section("Promise 13");
        s.test("0 n, 1 how many POINTS, 2 CODE, 3 KEPT, 4 whether it is WHOLE (1, 0), 5 how many CODES its CLASS has,",
            "told(0) 3; told(1) 3; told(2) 321; told(3) 321; told(4) 1; told(5) 3",
            "letters(2) 3; told(0) 2; told(1) 2; told(2) 21; told(3) 21; told(4) 1; told(5) 1; bottom(12) 1; told(2) 12; "
                + "told(3) 21; told(4) 0; told(5) 1",
            LONGEST + "told(0) 5; told(1) 495; told(2) 54321; told(3) 54321; told(4) 1; told(5) 15; bottom(54231) 1; told(5) 35; "
                + "bottom(12345) 1; told(4) 0; told(5) 1");
        s.test("6 the fewest STEPS of SHAPES from CODE to KEPT (-5: it isn't of its CLASS),",
            "told(6) 0; bottom(231) 1; told(6) 1; bottom(312) 1; told(6) 1; bottom(123) 1; told(6) -5; bottom(213) 1; told(6) -5; "
                + "keep() 213; told(6) 0; bottom(321) 1; told(6) -5",
            // There and back are not alike far.
            "letters(4) 3; bottom(2413) 1; told(6) 3; keep() 2413; bottom(4321) 1; told(6) 2",
            "letters(2) 3; told(6) 0; bottom(12) 1; told(6) -5",
            "letters(5) 3; told(6) 0; bottom(53241) 1; told(6) -5");
        s.test("7 CORNERS, 8 GENUS (-5: it isn't WHOLE),",
            "told(7) 2; told(8) 1; bottom(123) 1; told(7) 4; told(8) -5",
            "letters(2) 3; told(7) 1; told(8) 1; bottom(12) 1; told(7) 3; told(8) -5",
            "letters(4) 3; told(7) 1; told(8) 2; bottom(3412) 1; told(7) 3; told(8) 1; bottom(1432) 1; told(8) -5; "
                + "bottom(3214) 1; told(8) -5; bottom(2143) 1; told(8) -5",
            "letters(5) 3; told(7) 2; told(8) 2; bottom(12345) 1; told(7) 6; told(8) -5");
        s.test("9 ROUNDS, 10 ENDS.",
            "told(9) 2; told(10) 0; bottom(123) 1; told(9) 3; told(10) 0",
            "letters(2) 3; told(9) 1; length(0, 99) 1; told(9) 1; told(10) 98; length(1, 99) 1; told(9) 99; told(10) 0",
            LONGEST + "told(9) 297; told(10) 0; bottom(12345) 1; told(9) 495");
        s.test("NONE.",
            "told(-1) -1; told(11) -1; told(12) -1; told(2147483647) -1; told(-2147483648) -1");
    }

    private static void point(Sentences s) {
        s.section("Promise 14");
        s.test("Where a POINT GOES (what 0), the LETTER in which it lies by TOP (1), its PERIOD (2).",
            "point(0, 0) 2; point(1, 0) 1; point(2, 0) 0; point(0, 1) 0; point(2, 1) 2; point(0, 2) 2; point(1, 2) 1; "
                + "point(2, 2) 2",
            LONGEST + "point(0, 0) 396; point(494, 0) 98; point(98, 1) 0; point(99, 1) 1; point(494, 1) 4; point(0, 2) 2; "
                + "point(247, 2) 1",
            "length(0, 3) 1; step() 1; of(1, 0) 2; point(1, 1) 0; point(2, 1) 2; point(3, 1) 1; point(2, 0) 0; point(3, 0) 1; "
                + "point(1, 0) 3",
            "letters(2) 3; length(0, 99) 1; length(1, 98) 1; point(0, 0) 98; point(98, 0) 196; point(99, 0) 0; point(196, 0) 97; "
                + "point(0, 2) 197");
        s.test("NONE: point, what.",
            "point(-1, 0) -1; point(3, 0) -1; point(3, 1) -1; point(3, 2) -1; point(0, -1) -1; point(0, 3) -1; point(3, 3) -1; "
                + "point(2147483647, 0) -1; point(-2147483648, 2) -1; point(0, 2147483647) -1",
            LONGEST + "point(495, 0) -1; point(495, 1) -1; point(495, 2) -1",
            "letters(2) 3; point(1, 0) 0; point(2, 0) -1");
    }

    private static void gone(Sentences s) {
        s.section("Promise 15");
        s.test("The POINT to which a POINT has gone behind n times (0 .. 9999).",
            "gone(0, 0) 0; gone(2, 0) 2; gone(0, 1) 2; gone(0, 2) 0; gone(0, 9998) 0; gone(0, 9999) 2; gone(1, 9999) 1",
            // Point 0 goes on by 98 of 197 each time: 9999 times 98 leave 24.
            "letters(2) 3; length(0, 99) 1; length(1, 98) 1; gone(0, 1) 98; gone(0, 196) 99; gone(0, 197) 0; gone(0, 198) 98; "
                + "gone(0, 9999) 24; gone(196, 9999) 23",
            "bottom(123) 1; gone(2, 9999) 2");
        s.test("NONE: point;",
            "gone(3, 0) -1; gone(-1, 0) -1; gone(3, 9999) -1; gone(2147483647, 1) -1; gone(-2147483648, 1) -1; gone(3, 10000) -1; "
                + "gone(-1, -1) -1",
            LONGEST + "gone(494, 0) 494; gone(495, 0) -1");
        s.test("BAD.",
            "gone(0, -1) -2; gone(0, 10000) -2; gone(2, 10001) -2; gone(2, 2147483647) -2; gone(2, -2147483648) -2");
    }

    private static void code(Sentences s) {
        s.section("Promise 16");
        s.test("CODE i of its CLASS, the least first; -5: there are not as many.",
            "code(0) 231; code(1) 312; code(2) 321; code(3) -5; code(4) -5; code(2147483647) -5",
            "bottom(213) 1; code(0) 213; code(1) -5",
            "letters(2) 3; code(0) 21; code(1) -5; bottom(12) 1; code(0) 12; code(1) -5",
            "letters(4) 3; code(0) 2413; code(1) 2431; code(2) 3142; code(3) 3241; code(4) 4132; code(5) 4213; code(6) 4321; "
                + "code(7) -5",
            "letters(5) 3; code(14) 54321; code(15) -5",
            // Behind a greater CLASS that was asked for.
            "letters(5) 3; bottom(54231) 1; code(34) 54312; letters(2) 5; code(0) 21; code(1) -5; letters(3) 2; code(2) 321; "
                + "code(3) -5; bottom(123) 1; code(0) 123; code(1) -5");
        s.test("NONE: i below 0.",
            "code(-1) -1; code(-5) -1; code(-2147483648) -1; bottom(213) 1; code(-1) -1");
    }

    private static void next(Sentences s) {
        s.section("Promise 17");
        s.test("The CODE to which a STEP of a KIND (0, 1) leads from a CODE; -5: there is none.",
            "next(321, 0) 312; next(321, 1) 231; next(132, 0) 132; next(132, 1) 132; next(123, 0) -5; next(123, 1) -5; "
                + "next(213, 0) -5; next(213, 1) -5; told(2) 321",
            "letters(2) 3; next(21, 0) 21; next(21, 1) 21; next(12, 0) -5; next(12, 1) -5",
            "letters(5) 3; next(54321, 0) 51432; next(54321, 1) 25431; next(12345, 0) -5; next(43215, 1) -5",
            // By the CODE asked for, not by the one that is now.
            "bottom(123) 1; length(0, 9) 1; next(321, 1) 231; next(321, 0) 312");
        s.test("NONE: kind;",
            "next(321, -1) -1; next(321, 2) -1; next(321, 2147483647) -1; next(321, -2147483648) -1; next(123, 2) -1; "
                + "next(322, 2) -1; next(0, -1) -1");
        s.test("BAD: it is no CODE of n LETTERS.",
            "next(0, 0) -2; next(21, 0) -2; next(4321, 0) -2; next(322, 1) -2; next(320, 0) -2; next(324, 1) -2; "
                + "next(-321, 0) -2; next(1321, 0) -2; next(2147483647, 0) -2; next(-2147483648, 1) -2",
            "letters(2) 3; next(321, 0) -2; next(11, 0) -2; next(2, 1) -2",
            "letters(5) 3; next(4321, 0) -2; next(12346, 0) -2; next(123456, 1) -2; next(11345, 1) -2");
    }

    private static void meeting(Sentences s) {
        s.section("Promise 18");
        s.test("The MEETING to which a MEETING (0 .. n) leads.",
            "meeting(0) 2; meeting(1) 3; meeting(2) 0; meeting(3) 1",
            "letters(2) 3; meeting(0) 1; meeting(1) 2; meeting(2) 0; bottom(12) 1; meeting(0) 0; meeting(1) 1; meeting(2) 2",
            "letters(5) 3; meeting(0) 4; meeting(1) 5; meeting(5) 3; bottom(12345) 1; meeting(0) 0; meeting(5) 5",
            "length(0, 5) 1; step() 1; meeting(0) 1; meeting(1) 3; meeting(2) 2; meeting(3) 0");
        s.test("NONE.",
            "meeting(-1) -1; meeting(4) -1; meeting(5) -1; meeting(2147483647) -1; meeting(-2147483648) -1",
            "letters(2) 3; meeting(3) -1; meeting(-1) -1",
            "letters(5) 3; meeting(6) -1");
    }

    private static void see(Sentences s) {
        s.section("Promise 19");
        s.test("What is SEEN comes: how many there are (point -1: none then, 0, whatever the rest is).",
            "see(0, 2) 1; see(0, 2) 2; fits(1, 0) 1; see(-1, 0) 0; count(0) 0; fits(1, 0) 40",
            "see(-1, 500) 0; see(-1, -1) 0; see(0, 0) 1; see(-1, 2147483647) 0; see(0, 0) 1; see(-1, -2147483648) 0; count(0) 0",
            "see(0, 0) 1; see(0, 0) 2; see(0, 0) 3; see(0, 0) 4; see(-1, 0) 0; see(0, 0) 1",
            // The POINT needn't be on THE LINE.
            "see(3, 3) 1; see(499, 499) 2; count(0) 2");
        s.test("BAD: point, to (0 .. 499 each);",
            "see(0, 0) 1; see(499, 499) 2; see(500, 0) -2; see(0, 500) -2; see(0, -1) -2; see(-2, 0) -2; see(500, 500) -2; "
                + "see(2147483647, 0) -2; see(-2147483648, 0) -2; see(0, 2147483647) -2; see(0, -2147483648) -2; count(0) 2",
            "see(0, 0) 1; see(0, 0) 2; see(0, 0) 3; see(0, 0) 4; see(500, 0) -2; see(0, 500) -2; count(0) 4");
        s.test("FULL: 4.",
            "see(0, 2) 1; see(1, 1) 2; see(2, 0) 3; see(0, 2) 4; see(0, 9) -4; count(0) 4; fits(0, 0) 1; see(-1, 0) 0; see(0, 9) 1");
    }

    private static void fits(Sentences s) {
        s.section("Promise 20");
        s.test("FITS: what 0 how many, 1 the least (-5).",
            "fits(0, 0) 40; fits(0, 1) 1; see(0, 41) 1; fits(1, 0) 1; fits(1, 1) 40; fits(0, 0) 0; fits(0, 1) -5",
            "see(0, 2) 1; fits(1, 0) 1; fits(1, 1) 1; fits(0, 0) 40; fits(0, 1) 1",
            "see(0, 1) 1; fits(1, 0) 0; fits(1, 1) -5",
            "see(0, 42) 1; fits(1, 0) 0; fits(1, 1) -5",
            "letters(5) 3; fits(4, 0) 40; fits(4, 1) 1; see(4, 0) 1; fits(4, 0) 40; fits(0, 0) 1");
        s.test("NONE: letter, what.",
            "fits(3, 0) -1; fits(-1, 0) -1; fits(0, -1) -1; fits(0, 2) -1; fits(3, 2) -1; fits(2147483647, 0) -1; "
                + "fits(-2147483648, 1) -1; fits(0, 2147483647) -1",
            "letters(2) 3; fits(1, 0) 40; fits(2, 0) -1; letters(5) 2; fits(4, 0) 40; fits(5, 0) -1");
    }

    private static void fractions(Sentences s) {
        s.section("Promise 21");
        s.test("ODDS; part 0 above, 1 below the line.",
            "odds(0) 1; odds(1) 3",
            "bottom(123) 1; odds(0) 0; odds(1) 1",
            "letters(2) 3; length(1, 99) 1; odds(0) 99; odds(1) 100; length(0, 99) 1; odds(0) 1; odds(1) 2",
            LONGEST + "odds(0) 2; odds(1) 5");
        s.test("NO: part.",
            "odds(-1) NO; odds(2) NO; odds(3) NO; odds(2147483647) NO; odds(-2147483648) NO; bottom(123) 1; odds(2) NO");
        s.section("Promise 22");
        s.test("MEAN; part likewise.",
            "mean(0) 4; mean(1) 3",
            "bottom(123) 1; mean(0) 0; mean(1) 1",
            "letters(2) 3; mean(0) 1; mean(1) 1; length(1, 99) 1; mean(0) 99; mean(1) 50; length(0, 99) 1; mean(0) 99; mean(1) 1",
            LONGEST + "mean(0) 1188; mean(1) 5");
        s.test("NO: part.",
            "mean(-1) NO; mean(2) NO; mean(3) NO; mean(2147483647) NO; mean(-2147483648) NO; bottom(123) 1; mean(2) NO");
    }

    private static void event(Sentences s) {
        s.section("Promise 23");
        s.test("A row comes to EVENTS: how many there are (what -1: none then, 0, whatever the rest is).",
            "event(0, 0) 1; event(1, 0) 2; event(1, 2) 3; event(2, 0) 4; event(2, 1) 5; count(1) 5; event(-1, 0) 0; count(1) 0; "
                + "after(0) 3",
            "event(-1, 9) 0; event(-1, -1) 0; event(1, 1) 1; event(-1, 2147483647) 0; event(1, 1) 1; event(-1, -2147483648) 0; "
                + "count(1) 0",
            Sentences.counted("event(0, 0) #; ", 1, 8) + "event(-1, 0) 0; event(0, 0) 1");
        s.test("NONE: what (0 .. 2), LETTER n (1), KIND n (2);",
            "event(3, 0) -1; event(-2, 0) -1; event(2147483647, 0) -1; event(-2147483648, 0) -1; event(1, 3) -1; event(1, -1) -1; "
                + "event(1, 2147483647) -1; event(2, 2) -1; event(2, -1) -1; event(2, -2147483648) -1; count(1) 0",
            "letters(2) 3; event(1, 1) 1; event(1, 2) -1; letters(5) 2; event(1, 4) 2; event(1, 5) -1; count(1) 2",
            Sentences.counted("event(0, 0) #; ", 1, 8) + "event(3, 0) -1; event(1, 3) -1; event(2, 2) -1; count(1) 8");
        s.test("BAD: n isn't 0 (0);",
            "event(0, 1) -2; event(0, -1) -2; event(0, 2147483647) -2; event(0, -2147483648) -2; count(1) 0; event(0, 0) 1",
            Sentences.counted("event(0, 0) #; ", 1, 8) + "event(0, 1) -2");
        s.test("FULL: 8.",
            Sentences.counted("event(1, 0) #; ", 1, 8) + "event(0, 0) -4; event(1, 0) -4; event(2, 0) -4; count(1) 8; after(0) 11");
    }

    private static void after(Sentences s) {
        s.section("Promise 24");
        s.test("AFTER: what 0 how many POINTS, 1 CODE, 2 whether it is WHOLE.",
            "after(0) 3; after(1) 321; after(2) 1; bottom(123) 1; after(0) 3; after(1) 123; after(2) 0",
            "event(1, 0) 1; event(0, 0) 2; after(0) 3; after(1) 231; after(2) 1; told(1) 3; told(2) 321; count(4) 0",
            LONGEST + "event(1, 0) 1; event(2, 0) 2; event(0, 0) 3; after(0) 495; after(1) 54321",
            "letters(2) 3; bottom(12) 1; event(2, 0) 1; event(2, 1) 2; event(0, 0) 3; after(0) 2; after(1) 12; after(2) 0");
        s.test("NONE.",
            "after(-1) -1; after(3) -1; after(2147483647) -1; after(-2147483648) -1; event(0, 0) 1; after(3) -1");
    }

    private static void book(Sentences s) {
        s.section("Promise 25");
        s.test("A row comes to the BOOK: how many there are (letter -1: it is empty then, 0, whatever the rest is).",
            "book(0, 1) 1; book(0, 2) 2; looked() 1; book(-1, 1) 0; count(2) 0; looked() -5; book(2, 1) 1",
            "book(-1, 0) 0; book(-1, 100) 0; book(1, 1) 1; book(-1, 2147483647) 0; book(1, 1) 1; book(-1, -2147483648) 0; "
                + "count(2) 0",
            Sentences.counted("book(0, 1) #; ", 1, 8) + "book(-1, 0) 0; book(0, 1) 1");
        s.test("NONE: letter;",
            "book(3, 1) -1; book(-2, 1) -1; book(2147483647, 1) -1; book(-2147483648, 1) -1; book(3, 0) -1; count(2) 0",
            "letters(2) 3; book(1, 1) 1; book(2, 1) -1; letters(5) 2; book(4, 1) 2; book(5, 1) -1",
            Sentences.counted("book(0, 1) #; ", 1, 8) + "book(3, 1) -1; count(2) 8");
        s.test("BAD: v (1 .. 99);",
            "book(0, 0) -2; book(0, 100) -2; book(0, -1) -2; book(0, 2147483647) -2; book(0, -2147483648) -2; count(2) 0; "
                + "book(0, 1) 1; book(0, 99) 2",
            Sentences.counted("book(0, 1) #; ", 1, 8) + "book(0, 0) -2; book(0, 100) -2; count(2) 8");
        s.test("FULL: 8.",
            Sentences.counted("book(0, 1) #; ", 1, 8) + "book(0, 1) -4; book(2, 99) -4; count(2) 8; looked() -5");
    }

    private static void looked(Sentences s) {
        s.section("Promise 26");
        s.test("LOOKED at; -5.",
            "looked() -5; book(0, 1) 1; looked() -5; book(1, 2) 2; looked() 1; book(0, 2) 3; looked() 1; length(1, 2) 1; "
                + "looked() 2; length(0, 2) 1; looked() 0",
            "letters(5) 3; book(4, 1) 1; letters(4) 5; looked() 0; letters(5) 4; looked() -5",
            Sentences.counted("book(2, 1) #; ", 1, 7) + "book(2, 99) 8; looked() 7; length(2, 99) 1; looked() 0");
    }
}
