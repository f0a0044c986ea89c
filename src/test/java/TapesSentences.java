/** Promises 27 to 34: boundary cases, a test for each sentence. */
final class TapesSentences {
    private static final String FIVE_INTS = "tape(0, 2, 5) 1; item(0, 0, 1) 1; item(0, 1, 2) 1; item(0, 2, 3) 1; item(0, 3, 4) 1; item(0, 4, 5) 1; ";

    private TapesSentences() { }

    static void all(Sentences s) {
        judge(s);
        image(s);
        count(s);
        tape(s);
        item(s);
        peek(s);
        shift(s);
    }

    private static void judge(Sentences s) {
        s.section("Promise 27");
        s.test("JUDGED from place i of a TAPE on.",
            "tape(5, 1, 60) 1; item(5, 57, 1) 1; item(5, 58, 1) 1; item(5, 59, 1) 1; judge(5, 57) -5; judge(5, 56) 0; "
                + "judge(5, 58) 102; judge(5, 59) 101; judge(5, 60) 100; judge(5, 61) 100; judge(5, -1) 100; "
                + "judge(5, 2147483647) 100; judge(5, 2147483646) 100; judge(5, -2147483648) 100; length(2, 2) 1; judge(5, 57) 2",
            "tape(0, 1, 0) 1; judge(0, 0) 100; judge(0, -1) 100; judge(1, 0) 100; judge(1, -1) 100",
            "tape(0, 1, 3) 1; item(0, 0, 65537) 1; item(0, 1, -65535) 1; item(0, 2, 99) 1; judge(0, 0) 2; length(2, 99) 1; "
                + "judge(0, 0) -5",
            // A row that is otherwise ahead of its end is told so.
            "tape(0, 1, 2) 1; item(0, 0, 1) 1; judge(0, 0) 1; item(0, 1, 1) 1; judge(0, 0) 102; letters(2) 3; judge(0, 0) -5; "
                + "letters(5) 2; judge(0, 0) 102");
        s.test("NONE: tape;",
            "judge(-1, 0) -1; judge(6, 0) -1; judge(6, -1) -1; judge(2147483647, 0) -1; judge(-2147483648, 0) -1; "
                + "judge(0, 0) 100; judge(5, 0) 100");
        s.test("CAST: it is no row of shorts.",
            "tape(0, 0, 3) 1; judge(0, 0) -12; tape(0, 1, 3) 1; judge(0, 0) 0; tape(0, 2, 3) 1; judge(0, 0) -12; tape(0, 3, 3) 1; "
                + "judge(0, 0) -12; tape(0, 4, 3) 1; judge(0, 0) -12; judge(0, 9) -12; tape(0, 4, 0) 1; judge(0, 0) -12; "
                + "tape(0, -1, 0) 1; judge(0, 0) 100");
    }

    private static void image(Sentences s) {
        s.section("Promise 28");
        s.test("THE IMAGE is taken: how many POINTS.",
            "image() 3; letters(2) 3; image() 2; letters(5) 2; undo() 2; told(0) 2",
            "letters(5) 3; length(0, 99) 1; length(1, 99) 1; length(2, 99) 1; length(3, 99) 1; length(4, 99) 1; image() 495; "
                + "count(4) 5; takeBack() 4; undo() 495; of(4, 2) 99",
            "see(0, 0) 1; see(0, 0) 2; see(0, 0) 3; see(0, 0) 4; " + Sentences.counted("event(0, 0) #; ", 1, 8)
                + Sentences.counted("book(0, 1) #; ", 1, 8) + "image() 3; see(-1, 0) 0; event(-1, 0) 0; book(-1, 0) 0; undo() 3; "
                + "count(0) 4; count(1) 8; count(2) 8; see(0, 0) -4; event(0, 0) -4; book(0, 1) -4",
            // What comes behind it is not of it.
            "image() 3; see(0, 0) 1; event(0, 0) 1; book(0, 1) 1; length(0, 5) 1; swap(0, 1) 1; keep() 312; undo() 3; count(0) 0; "
                + "count(1) 0; count(2) 0; told(2) 321; told(3) 321");
        s.section("Promise 29");
        s.test("All is as THE IMAGE: how many POINTS.",
            "length(0, 9) 1; step() 1; keep() 231; image() 10; letters(5) 3; undo() 10; told(0) 3; of(1, 0) 2; of(2, 0) 1; "
                + "told(2) 231; told(3) 231; of(0, 2) 8; count(4) 0; takeBack() -3",
            "image() 3; undo() 3; length(0, 5) 1; undo() 3; length(0, 6) 1; undo() 3; of(0, 2) 1",
            "letters(2) 3; image() 2; letters(5) 2; length(4, 9) 1; undo() 2; told(0) 2; length(2, 1) -1; letters(5) 2; of(4, 2) 1",
            "image() 3; feed(107) 1; tape(0, 0, 2) 1; item(0, 1, 5) 1; undo() 3; count(3) 1; peek(0, 1) 5; read() 1");
        s.test("STATE: there is none.",
            "undo() -3; length(0, 5) 1; undo() -3; of(0, 2) 5; count(4) 1; letters(3) 3; undo() -3; image() 3; undo() 3; undo() 3");
    }

    private static void count(Sentences s) {
        s.section("Promise 30");
        s.test("How many: 0 SEEN, 1 EVENTS, 2 of the BOOK, 3 bytes of THE TEXT, 4 DEEDS that can be taken back.",
            "count(0) 0; count(1) 0; count(2) 0; count(3) 0; count(4) 0; see(0, 0) 1; event(0, 0) 1; event(0, 0) 2; book(0, 1) 1; "
                + "book(0, 1) 2; book(0, 1) 3; feed(0) 1; feed(0) 2; feed(0) 3; feed(0) 4; swap(0, 1) 1; count(0) 1; count(1) 2; "
                + "count(2) 3; count(3) 4; count(4) 1",
            Sentences.counted("see(0, 0) #; ", 1, 4) + Sentences.counted("event(0, 0) #; ", 1, 8)
                + Sentences.counted("book(0, 1) #; ", 1, 8) + Sentences.counted("feed(0) #; ", 1, 100)
                + Sentences.counted("swap(0, 1) 1; ", 1, 13) + "count(0) 4; count(1) 8; count(2) 8; count(3) 100; count(4) 12; "
                + "see(0, 0) -4; event(0, 0) -4; book(0, 1) -4; feed(0) -4; count(0) 4; count(1) 8; count(2) 8; count(3) 100",
            "swap(0, 1) 1; swap(0, 1) 1; count(4) 2; takeBack() 1; count(4) 1; takeBack() 0; count(4) 0");
        s.test("BAD.",
            "count(-1) -2; count(5) -2; count(6) -2; count(2147483647) -2; count(-2147483648) -2");
    }

    private static void tape(Sentences s) {
        s.section("Promise 31");
        s.test("A TAPE becomes a row of n (0 .. 60) of a sort, all 0,",
            "tape(0, 0, 0) 1; peek(0, 0) NO; item(0, 0, 1) -13; tape(0, 0, 1) 1; peek(0, 0) 0; peek(0, 1) NO; tape(0, 0, 60) 1; "
                + "peek(0, 59) 0; peek(0, 60) NO; item(0, 59, 7) 1; peek(0, 59) 7",
            "tape(5, 3, 60) 1; item(5, 0, 9) 1; item(5, 59, 9) 1; tape(5, 3, 60) 1; peek(5, 0) 0; peek(5, 59) 0",
            "tape(1, 3, 60) 1; item(1, 59, 9) 1; item(1, 1, 9) 1; tape(1, 0, 2) 1; peek(1, 1) 0; peek(1, 2) NO; tape(1, 3, 60) 1; "
                + "peek(1, 59) 0",
            "tape(0, 4, 60) 1; tape(1, 1, 60) 1; tape(2, 2, 60) 1; item(0, 3, 1) 1; peek(1, 3) 0; peek(2, 3) 0; peek(3, 0) NO");
        s.test("or holds nothing (sort -1: n does not matter): 1.",
            "tape(0, -1, 0) 1; tape(0, 0, 3) 1; peek(0, 0) 0; tape(0, -1, 3) 1; peek(0, 0) NO; item(0, 0, 1) -11; "
                + "tape(0, -1, -1) 1; tape(0, -1, 61) 1; tape(0, -1, 2147483647) 1; tape(0, -1, -2147483648) 1; tape(0, 0, 3) 1; "
                + "item(0, 1, 5) 1; tape(0, -1, 99) 1; tape(0, 0, 3) 1; peek(0, 1) 0");
        s.test("NONE: tape;",
            "tape(-1, 0, 1) -1; tape(6, 0, 1) -1; tape(6, -1, 1) -1; tape(6, 5, 1) -1; tape(-1, 0, 61) -1; tape(-1, 0, -1) -1; "
                + "tape(2147483647, 0, 1) -1; tape(-2147483648, 0, 1) -1");
        s.test("BAD: sort, n above 60;",
            "tape(0, 5, 1) -2; tape(0, -2, 1) -2; tape(0, 2147483647, 1) -2; tape(0, -2147483648, 1) -2; tape(0, 0, 61) -2; "
                + "tape(0, 4, 2147483647) -2; tape(0, 5, -1) -2; tape(0, 5, 61) -2; tape(0, -2, -1) -2; peek(0, 0) NO",
            "tape(0, 1, 2) 1; item(0, 1, 7) 1; tape(0, 5, 2) -2; tape(0, 1, 61) -2; peek(0, 1) 7");
        s.test("SIZE.",
            "tape(0, 0, -1) -14; tape(0, 4, -1) -14; tape(5, 1, -60) -14; tape(0, 0, -2147483648) -14; item(0, 0, 1) -11",
            "tape(0, 1, 2) 1; item(0, 1, 7) 1; tape(0, 1, -1) -14; peek(0, 1) 7; peek(0, 2) NO");
    }

    private static void item(Sentences s) {
        s.section("Promise 32");
        s.test("Item i of a TAPE becomes v (its lowest bits, as many as an item has; booleans: whether v is not 0): 1.",
            "tape(0, 0, 2) 1; item(0, 0, 127) 1; peek(0, 0) 127; item(0, 0, 128) 1; peek(0, 0) -128; item(0, 0, 255) 1; "
                + "peek(0, 0) -1; item(0, 0, 256) 1; peek(0, 0) 0; item(0, 0, -129) 1; peek(0, 0) 127; item(0, 0, NO) 1; "
                + "peek(0, 0) 0; peek(0, 1) 0",
            "tape(0, 1, 2) 1; item(0, 1, 32767) 1; peek(0, 1) 32767; item(0, 1, 32768) 1; peek(0, 1) -32768; item(0, 1, 65535) 1; "
                + "peek(0, 1) -1; item(0, 1, 65536) 1; peek(0, 1) 0; item(0, 1, -32769) 1; peek(0, 1) 32767; "
                + "item(0, 1, 9223372036854775807) 1; peek(0, 1) -1; peek(0, 0) 0",
            "tape(0, 2, 1) 1; item(0, 0, 2147483647) 1; peek(0, 0) 2147483647; item(0, 0, 2147483648) 1; peek(0, 0) -2147483648; "
                + "item(0, 0, 4294967295) 1; peek(0, 0) -1; item(0, 0, 4294967296) 1; peek(0, 0) 0; item(0, 0, -2147483649) 1; "
                + "peek(0, 0) 2147483647",
            "tape(0, 3, 1) 1; item(0, 0, 9223372036854775807) 1; peek(0, 0) 9223372036854775807; item(0, 0, NO) 1; peek(0, 0) NO; "
                + "item(0, 0, -1) 1; peek(0, 0) -1",
            "tape(0, 4, 1) 1; item(0, 0, 1) 1; peek(0, 0) 1; item(0, 0, 0) 1; peek(0, 0) 0; item(0, 0, 2) 1; peek(0, 0) 1; "
                + "item(0, 0, 4294967296) 1; peek(0, 0) 1; item(0, 0, -1) 1; peek(0, 0) 1; item(0, 0, NO) 1; peek(0, 0) 1");
        s.test("NONE;",
            "item(-1, 0, 1) -1; item(6, 0, 1) -1; item(6, -1, 1) -1; item(2147483647, 0, 1) -1; item(-2147483648, 0, 1) -1");
        s.test("NOTHING;",
            "item(0, 0, 1) -11; item(5, 0, 1) -11; item(0, -1, 1) -11; item(0, 60, 1) -11; tape(0, 0, 1) 1; item(0, 0, 1) 1; "
                + "tape(0, -1, 0) 1; item(0, 0, 1) -11");
        s.test("PLACE.",
            "tape(0, 0, 2) 1; item(0, -1, 1) -13; item(0, 2, 1) -13; item(0, 1, 1) 1; item(0, 2147483647, 1) -13; "
                + "item(0, -2147483648, 1) -13; peek(0, 0) 0; peek(0, 1) 1; tape(0, 0, 0) 1; item(0, 0, 1) -13; tape(0, 3, 60) 1; "
                + "item(0, 59, 1) 1; item(0, 60, 1) -13");
    }

    private static void peek(Sentences s) {
        s.section("Promise 33");
        s.test("Item i of a TAPE.",
            "tape(0, 2, 60) 1; item(0, 0, 7) 1; item(0, 59, 8) 1; peek(0, 0) 7; peek(0, 59) 8; peek(0, 1) 0; peek(0, 58) 0");
        s.test("NO: no such TAPE,",
            "peek(-1, 0) NO; peek(6, 0) NO; peek(2147483647, 0) NO; peek(-2147483648, 0) NO; tape(5, 0, 1) 1; peek(5, 0) 0; "
                + "peek(6, 0) NO");
        s.test("nothing there,",
            "peek(0, 0) NO; peek(5, 0) NO; tape(0, 0, 1) 1; peek(0, 0) 0; tape(0, -1, 0) 1; peek(0, 0) NO");
        s.test("no such place.",
            "tape(0, 0, 2) 1; peek(0, -1) NO; peek(0, 2) NO; peek(0, 1) 0; peek(0, 2147483647) NO; peek(0, -2147483648) NO; "
                + "tape(0, 0, 0) 1; peek(0, 0) NO; tape(0, 0, 60) 1; peek(0, 59) 0; peek(0, 60) NO");
    }

    private static void shift(Sentences s) {
        s.section("Promise 34");
        s.test("n items of a TAPE from i on come to another one (or the same) from j on, as they all were before: n.",
            FIVE_INTS + "tape(1, 2, 3) 1; shift(0, 2, 1, 0, 3) 3; peek(1, 0) 3; peek(1, 1) 4; peek(1, 2) 5; peek(0, 2) 3; "
                + "shift(0, 0, 1, 2, 1) 1; peek(1, 1) 4; peek(1, 2) 1",
            FIVE_INTS + "shift(0, 0, 0, 1, 4) 4; peek(0, 0) 1; peek(0, 1) 1; peek(0, 2) 2; peek(0, 3) 3; peek(0, 4) 4",
            FIVE_INTS + "shift(0, 1, 0, 0, 4) 4; peek(0, 0) 2; peek(0, 1) 3; peek(0, 2) 4; peek(0, 3) 5; peek(0, 4) 5",
            FIVE_INTS + "shift(0, 0, 0, 0, 5) 5; peek(0, 0) 1; peek(0, 4) 5",
            FIVE_INTS + "shift(0, 0, 0, 0, 0) 0; shift(0, 5, 0, 5, 0) 0; shift(0, 5, 0, 0, 0) 0; shift(0, 0, 0, 5, 0) 0; "
                + "peek(0, 0) 1; peek(0, 4) 5; tape(1, 2, 0) 1; shift(0, 0, 1, 0, 0) 0; shift(1, 0, 0, 5, 0) 0",
            "tape(0, 4, 60) 1; tape(1, 4, 60) 1; item(0, 0, 1) 1; item(0, 59, 1) 1; shift(0, 0, 1, 0, 60) 60; peek(1, 0) 1; "
                + "peek(1, 1) 0; peek(1, 59) 1");
        s.test("NONE: tapes;",
            "tape(0, 0, 1) 1; shift(-1, 0, 0, 0, 1) -1; shift(6, 0, 0, 0, 1) -1; shift(0, 0, -1, 0, 1) -1; "
                + "shift(0, 0, 6, 0, 1) -1; shift(2147483647, 0, -2147483648, 0, 1) -1; shift(6, -1, 6, -1, -1) -1; "
                + "shift(1, 0, 6, 0, 0) -1");
        s.test("NOTHING;",
            "shift(0, 0, 0, 0, 0) -11; shift(0, 0, 1, 0, 0) -11; tape(0, 0, 1) 1; shift(0, 0, 1, 0, 0) -11; "
                + "shift(1, 0, 0, 0, 0) -11; shift(0, 0, 1, 0, -1) -11; shift(1, -1, 0, 0, 1) -11; shift(5, 0, 4, 0, 1) -11");
        s.test("CAST: of unlike sorts;",
            "tape(0, 0, 2) 1; tape(1, 1, 2) 1; tape(2, 2, 2) 1; tape(3, 3, 2) 1; tape(4, 4, 2) 1; shift(0, 0, 1, 0, 1) -12; "
                + "shift(1, 0, 2, 0, 1) -12; shift(2, 0, 3, 0, 1) -12; shift(3, 0, 4, 0, 1) -12; shift(4, 0, 0, 0, 1) -12; "
                + "shift(0, 0, 4, 0, 0) -12; shift(0, -1, 1, 0, 1) -12; shift(0, 0, 1, 0, 9) -12; shift(0, 0, 0, 1, 1) 1");
        s.test("PLACE: n, i or j is below 0, or beyond either's end.",
            FIVE_INTS + "tape(1, 2, 3) 1; shift(0, 0, 1, 0, -1) -13; shift(0, -1, 1, 0, 1) -13; shift(0, 0, 1, -1, 1) -13; "
                + "shift(0, 0, 1, 0, 4) -13; shift(1, 0, 0, 0, 4) -13; shift(0, 3, 1, 0, 3) -13; shift(0, 0, 1, 1, 3) -13; "
                + "shift(0, 6, 1, 0, 0) -13; shift(0, 0, 1, 4, 0) -13; shift(0, -1, 1, 0, 0) -13; shift(0, 0, 1, -1, 0) -13; "
                + "peek(1, 0) 0; peek(1, 1) 0; peek(1, 2) 0; shift(0, 2, 1, 0, 3) 3",
            FIVE_INTS + "shift(0, 2147483647, 0, 0, 1) -13; shift(0, 1, 0, 0, 2147483647) -13; shift(0, 0, 0, 2147483647, 1) -13; "
                + "shift(0, 2147483647, 0, 2147483647, 2147483647) -13; shift(0, 0, 0, 0, -2147483648) -13; "
                + "shift(0, -2147483648, 0, 0, 1) -13; shift(0, 0, 0, -2147483648, 1) -13; shift(0, 0, 0, 1, 5) -13; "
                + "shift(0, 1, 0, 0, 5) -13; peek(0, 0) 1; peek(0, 4) 5");
    }
}
