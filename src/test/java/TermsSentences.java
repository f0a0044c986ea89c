/** Boundary cases that the document's opening and its "Terms" name, a test for each sentence. */
final class TermsSentences {
    private TermsSentences() { }

    static void all(Sentences s) {
        s.section("What it is");
        opening(s);
        s.section("Terms");
        lettersAndLine(s);
        steps(s);
        shapes(s);
        deeds(s);
        texts(s);
        clauses(s);
        asked(s);
        meetings(s);
        seen(s);
        events(s);
        books(s);
        tapes(s);
        answers(s);
    }

    private static void opening(Sentences s) {
        s.test("fewest steps between them",
            "told(6) 0; bottom(231) 1; told(6) 1");
        s.test("LETTERS 0 .. n - 1 (n 2 .. ",
            "letters(1) -2; letters(2) 3; of(0, 2) 1; of(1, 2) 1; of(2, 2) -1; of(-1, 2) -1; length(1, 9) 1; length(2, 9) -1; "
                + "length(-1, 9) -1",
            "of(2, 2) 1; of(3, 2) -1; length(2, 9) 1; length(3, 9) -1",
            "letters(4) 3; of(3, 2) 1; of(4, 2) -1; length(3, 9) 1; length(4, 9) -1",
            "letters(5) 3; of(4, 2) 1; of(5, 2) -1; length(4, 9) 1; length(5, 9) -1");
        s.test("An object is used for at most 512 calls after it has been made",
            callsToTheLast());
    }

    private static String callsToTheLast() {
        StringBuilder rows = new StringBuilder();
        int before = 1;
        for (int i = 1; i <= 170; i++) {
            int v = i % 99 + 1;
            rows.append("length(1, " + v + ") " + before + "; of(1, 2) " + v + "; count(4) " + Math.min(i, 12) + "; ");
            before = v;
        }
        return rows + "takeBack() 11; of(1, 2) 71";
    }

    private static void lettersAndLine(Sentences s) {
        s.test("5; 3 at first)",
            "told(0) 3; letters(6) -2; told(0) 3; letters(5) 3; told(0) 5; letters(6) -2; letters(7) -2; told(0) 5");
        s.test("each with a LENGTH (1 .. 99; 1 at first)",
            "of(0, 2) 1; of(1, 2) 1; of(2, 2) 1; length(2, 0) -2; length(2, -1) -2; length(2, 1) 1; length(2, 99) 1; "
                + "length(2, 100) -2; of(2, 2) 99",
            "letters(5) 3; of(0, 2) 1; of(1, 2) 1; of(2, 2) 1; of(3, 2) 1; of(4, 2) 1");
        s.test("TOP: all LETTERS in a row, each once (0, 1, .. at first)",
            "letters(2) 3; of(0, 0) 0; of(1, 0) 1; letters(3) 2; of(0, 0) 0; of(1, 0) 1; of(2, 0) 2; letters(4) 3; of(0, 0) 0; "
                + "of(1, 0) 1; of(2, 0) 2; of(3, 0) 3; letters(5) 4; of(0, 0) 0; of(1, 0) 1; of(2, 0) 2; of(3, 0) 3; of(4, 0) 4",
            "letters(5) 3; length(0, 9) 1; step() 1; step() 1; of(0, 0) 0; of(1, 0) 3; of(2, 0) 4; of(3, 0) 1; of(4, 0) 2");
        s.test("BOTTOM: likewise (at first the other way about: n - 1, .., 0)",
            "letters(2) 3; of(0, 1) 1; of(1, 1) 0; letters(3) 2; of(0, 1) 2; of(1, 1) 1; of(2, 1) 0; letters(4) 3; of(0, 1) 3; "
                + "of(1, 1) 2; of(2, 1) 1; of(3, 1) 0; letters(5) 4; of(0, 1) 4; of(1, 1) 3; of(2, 1) 2; of(3, 1) 1; of(4, 1) 0");
        s.test("THE LINE: as many POINTS (0, 1, ..) as all LENGTHS are, together.",
            "letters(2) 3; told(1) 2; point(0, 0) 1; point(1, 0) 0; point(2, 0) -1; point(-1, 0) -1",
            "letters(5) 3; length(0, 99) 1; length(1, 99) 1; length(2, 99) 1; length(3, 99) 1; length(4, 99) 1; told(1) 495; "
                + "point(0, 0) 396; point(494, 0) 98; point(495, 0) -1");
        s.test("By TOP the first LENGTH of its first LETTER of them lie in that LETTER, the next in its second one, and so on; "
                + "by BOTTOM likewise.",
            "length(0, 2) 1; length(1, 3) 1; point(0, 1) 0; point(1, 1) 0; point(2, 1) 1; point(4, 1) 1; point(5, 1) 2; "
                + "point(6, 1) -1",
            "length(0, 3) 1; step() 1; of(0, 0) 0; of(1, 0) 2; point(1, 1) 0; point(2, 1) 2; point(3, 1) 1; point(4, 1) -1");
        s.test("A POINT GOES from where it lies in its LETTER by TOP to the one that lies as far in that LETTER by BOTTOM.",
            "length(0, 2) 1; length(1, 3) 1; point(0, 0) 4; point(1, 0) 5; point(2, 0) 1; point(4, 0) 3; point(5, 0) 0",
            "bottom(123) 1; length(1, 3) 1; point(0, 0) 0; point(1, 0) 1; point(3, 0) 3; point(4, 0) 4");
        s.test("It is WHOLE, if for no k of 1 .. n - 1 the first k LETTERS of TOP are those of BOTTOM (in whatever order).",
            // By k of 1 alone, by n - 1 alone, by one between, by none; that all n are the same ones never counts.
            "bottom(132) 1; told(4) 0; bottom(213) 1; told(4) 0; bottom(123) 1; told(4) 0; bottom(231) 1; told(4) 1; "
                + "bottom(312) 1; told(4) 1; bottom(321) 1; told(4) 1",
            "letters(2) 3; told(4) 1; bottom(12) 1; told(4) 0",
            "letters(5) 3; bottom(15432) 1; told(4) 0; bottom(43215) 1; told(4) 0; bottom(21543) 1; told(4) 0; bottom(32154) 1; "
                + "told(4) 0; bottom(25143) 1; told(4) 1");
    }

    private static void steps(Sentences s) {
        s.test("A STEP: t is the last LETTER of TOP, b that of BOTTOM (unlike).",
            "length(1, 9) 1; step() -3; length(2, 2) 1; step() 0; of(1, 2) 9; of(0, 2) 1; of(2, 2) 1");
        s.test("If LENGTH of t is greater than that of b: LENGTH of t becomes that less LENGTH of b, and b is moved, in "
                + "BOTTOM, right behind t (KIND 0).",
            "length(2, 2) 1; step() 0; of(2, 2) 1; of(0, 2) 1; of(0, 1) 2; of(1, 1) 0; of(2, 1) 1; of(0, 0) 0; of(1, 0) 1; "
                + "of(2, 0) 2; told(1) 3",
            "length(2, 99) 1; length(0, 98) 1; step() 0; of(2, 2) 1; of(0, 2) 98; told(1) 100",
            "length(2, 99) 1; step() 0; of(2, 2) 98; told(1) 100",
            "letters(5) 3; length(4, 2) 1; step() 0; told(2) 51432",
            "bottom(132) 1; length(2, 2) 1; step() 0; told(2) 132; of(2, 2) 1");
        s.test("If LENGTH of b is greater: LENGTH of b becomes that less LENGTH of t, and t is moved, in TOP, right behind b "
                + "(KIND 1).",
            "length(0, 2) 1; step() 1; of(0, 2) 1; of(2, 2) 1; of(0, 0) 0; of(1, 0) 2; of(2, 0) 1; of(0, 1) 2; of(1, 1) 1; "
                + "of(2, 1) 0; told(1) 3",
            "length(0, 99) 1; length(2, 98) 1; step() 1; of(0, 2) 1; of(2, 2) 98; told(1) 100",
            "length(0, 99) 1; step() 1; of(0, 2) 98; told(1) 100",
            "letters(5) 3; length(0, 2) 1; step() 1; told(2) 25431; of(1, 0) 4; of(4, 0) 3",
            "bottom(132) 1; length(1, 2) 1; step() 1; told(2) 132; of(1, 2) 1");
        s.test("If they are alike, it is a TIE: there is no STEP;",
            "step() -3; length(0, 99) 1; length(2, 99) 1; step() -3; told(1) 199; told(2) 321; length(0, 98) 99; step() 0");
        s.test("nor is there, if t and b are one LETTER.",
            "bottom(123) 1; step() -3; length(2, 9) 1; step() -3; length(2, 1) 9; length(1, 9) 1; step() -3; told(2) 123",
            "letters(2) 3; bottom(12) 1; length(0, 5) 1; step() -3; length(1, 9) 1; step() -3");
        s.test("A STEP BACK of KIND 0: t is the last LETTER of TOP; b is the LETTER right behind t in BOTTOM (there must be "
                + "one): b is moved, in BOTTOM, to the end, and LENGTH of t becomes that and LENGTH of b, together.",
            "length(1, 7) 1; back(0) 16; of(0, 1) 2; of(1, 1) 0; of(2, 1) 1; of(2, 2) 8; of(1, 2) 7; of(2, 0) 2",
            "bottom(132) 1; back(0) 4; told(2) 132; of(2, 2) 2",
            "bottom(213) 1; back(0) -3; told(1) 3",
            "letters(2) 3; back(0) 3; told(2) 21; bottom(12) 1; back(0) -3",
            "letters(5) 3; back(0) 6; told(2) 53214");
        s.test("KIND 1: b is the last LETTER of BOTTOM; t the LETTER right behind b in TOP: t is moved, in TOP, to the end, "
                + "and LENGTH of b becomes that and LENGTH of t.",
            "length(1, 7) 1; back(1) 16; of(0, 0) 0; of(1, 0) 2; of(2, 0) 1; of(0, 2) 8; of(1, 2) 7; of(2, 1) 0",
            "bottom(132) 1; back(1) 4; told(2) 132; of(1, 2) 2",
            "bottom(213) 1; back(1) -3; told(1) 3",
            "letters(2) 3; back(1) 3; told(2) 21; bottom(12) 1; back(1) -3",
            "letters(5) 3; back(1) 6; told(2) 43251");
    }

    private static void shapes(Sentences s) {
        s.test("A SHAPE: TOP and BOTTOM without LENGTHS.",
            "told(5) 3; told(6) 0; told(7) 2; length(0, 99) 1; told(2) 321; told(4) 1; told(5) 3; told(6) 0; told(7) 2; told(8) 1");
        s.test("A SHAPE has STEPS of both KINDS, LENGTHS left out (none, if t and b are one LETTER).",
            "step() -3; next(321, 0) 312; next(321, 1) 231; length(0, 9) 1; next(321, 0) 312; next(321, 1) 231",
            "next(123, 0) -5; next(123, 1) -5; next(213, 0) -5; next(213, 1) -5; bottom(213) 1; told(5) 1; code(0) 213; code(1) -5");
        s.test("Its CODE: BOTTOM told in places of TOP: a number of n digits, from the highest on for each LETTER of BOTTOM 1 "
                + "more than its place in TOP (from 0).",
            "letters(2) 3; told(2) 21; bottom(12) 1; told(2) 12",
            "letters(5) 3; told(2) 54321; bottom(12345) 1; told(2) 12345; of(0, 1) 0; of(4, 1) 4",
            "length(0, 9) 1; step() 1; of(0, 0) 0; of(1, 0) 2; of(2, 0) 1; told(2) 231");
        s.test("(SHAPES of one CODE are one here.)",
            "length(0, 9) 1; step() 1; told(2) 231; told(6) 1; keep() 231; bottom(231) 1; of(1, 0) 1; told(6) 0");
        s.test("CLASS: all CODES to which STEPS, one behind the other, lead from it, itself among them.",
            "told(5) 3; code(0) 231; code(1) 312; code(2) 321; code(3) -5",
            "letters(2) 3; told(5) 1; code(0) 21; code(1) -5; bottom(12) 1; told(5) 1; code(0) 12; code(1) -5",
            "bottom(123) 1; told(5) 1; code(0) 123; code(1) -5",
            "letters(5) 3; bottom(54231) 1; told(5) 35; code(34) 54312; code(35) -5");
        s.test("KEPT: a CODE (that of n, .., 2, 1 at first).",
            "told(3) 321; letters(2) 3; told(3) 21; letters(4) 2; told(3) 4321; letters(5) 4; told(3) 54321",
            "bottom(123) 1; told(3) 321; keep() 123; told(3) 123; letters(3) 3; told(3) 321");
    }

    private static void deeds(Sentences s) {
        s.test("DEEDS: step(), back(), length(), swap(), and what a text did so: each can be taken back, the latest first,",
            "length(0, 9) 1; step() 1; swap(0, 2) 1; back(0) 11; count(4) 4; takeBack() 3; of(1, 2) 1; of(0, 1) 0; takeBack() 2; "
                + "of(0, 1) 2; of(1, 0) 2; takeBack() 1; of(1, 0) 1; of(0, 2) 9; takeBack() 0; of(0, 2) 1; takeBack() -3",
            "text l09,s,w02,b0 4; told(1) 11; count(4) 4; takeBack() 3; of(1, 2) 1; of(0, 1) 0; takeBack() 2; of(0, 1) 2; "
                + "of(1, 0) 2; takeBack() 1; of(1, 0) 1; of(0, 2) 9; takeBack() 0; of(0, 2) 1; takeBack() -3");
        s.test("12 at most (older ones no more)",
            lengths(2, 12) + "count(4) 11; " + takenBack(11, 1) + "takeBack() -3; of(1, 2) 1",
            lengths(2, 13) + "count(4) 12; " + takenBack(12, 1) + "takeBack() -3; of(1, 2) 1",
            lengths(2, 14) + "count(4) 12; " + takenBack(12, 2) + "takeBack() -3; of(1, 2) 2",
            lengths(2, 26) + "count(4) 12; " + takenBack(12, 14) + "takeBack() -3; of(1, 2) 14",
            lengths(2, 31) + "count(4) 12; " + takenBack(12, 19) + "takeBack() -3; of(1, 2) 19",
            // Five of twelve taken back, eight new ones: three of the old ones are no more.
            lengths(2, 13) + "takeBack() 11; takeBack() 10; takeBack() 9; takeBack() 8; takeBack() 7; of(1, 2) 8; "
                + "length(1, 51) 8; " + lengths(52, 58) + "count(4) 12; takeBack() 11; takeBack() 10; takeBack() 9; takeBack() 8; "
                + "takeBack() 7; takeBack() 6; takeBack() 5; of(1, 2) 51; takeBack() 4; of(1, 2) 8; " + takenBack(4, 4)
                + "takeBack() -3; of(1, 2) 4",
            "text l02,l03,l04,l05,l06,l07,l08,l09,l010,l011,l012,l013 12; count(4) 12; length(0, 14) 13; count(4) 12; "
                + "text u,u,u,u,u,u,u,u,u,u,u,u 12; of(0, 2) 2; takeBack() -3");
        s.test("one that is refused is none",
            "length(0, 0) -2; length(3, 1) -1; swap(0, 0) -1; step() -3; back(2) -1; count(4) 0; takeBack() -3",
            "length(2, 99) 1; back(0) -2; count(4) 1; takeBack() 0; of(2, 2) 1",
            "bottom(213) 1; back(0) -3; back(1) -3; count(4) 0",
            "text s,w00,l00,l31,b2,u 0; count(4) 0; takeBack() -3",
            lengths(2, 13) + "swap(1, 1) -1; back(7) -1; length(0, 100) -2; count(4) 12; " + takenBack(12, 1) + "of(1, 2) 1");
        s.test("one by which nothing is otherwise is one",
            "length(0, 1) 1; count(4) 1; takeBack() 0; of(0, 2) 1; takeBack() -3",
            "text l01 1; count(4) 1",
            "length(0, 5) 1; length(0, 5) 5; count(4) 2; takeBack() 1; of(0, 2) 5; takeBack() 0; of(0, 2) 1");
        s.test("Behind letters(), bottom(), undo() none can be.",
            "length(0, 5) 1; letters(3) 3; count(4) 0; takeBack() -3; of(0, 2) 1; length(1, 4) 1; takeBack() 0; takeBack() -3",
            "length(0, 5) 1; bottom(321) 1; count(4) 0; takeBack() -3; of(0, 2) 5; length(1, 4) 1; takeBack() 0; takeBack() -3",
            "length(0, 5) 1; image() 7; undo() 7; count(4) 0; takeBack() -3; of(0, 2) 5; length(1, 4) 1; takeBack() 0; "
                + "takeBack() -3",
            "text l05,n3,u 2; count(4) 0; text l05,r321,u 2; count(4) 0; of(0, 2) 5",
            "length(0, 5) 1; keep() 321; image() 7; count(4) 1; takeBack() 0",
            "length(0, 5) 1; letters(6) -2; bottom(0) -2; undo() -3; text n6,r0 0; count(4) 1; takeBack() 0; of(0, 2) 1");
    }

    /** Deeds that make LENGTH of LETTER 1 one more each. */
    private static String lengths(int from, int to) {
        StringBuilder rows = new StringBuilder();
        for (int v = from; v <= to; v++) {
            rows.append("length(1, " + v + ") " + (v - 1) + "; ");
        }
        return rows.toString();
    }

    /** Takes so many of them back, to a LENGTH. */
    private static String takenBack(int many, int to) {
        StringBuilder rows = new StringBuilder();
        for (int left = many - 1; left >= 0; left--) {
            rows.append("takeBack() " + left + "; of(1, 2) " + (to + left) + "; ");
        }
        return rows.toString();
    }

    private static void texts(Sentences s) {
        s.test("A set-up is read from THE TEXT (bytes, 100 at most)",
            Sentences.counted("feed(107) #; ", 1, 99) + "count(3) 99; feed(107) 100; feed(107) -4; count(3) 100; read() -11; "
                + "count(3) 0; feed(107) 1",
            "feed(107) 1; feed(59) 2; feed(107) 3; read() 2; count(3) 0");
        String most = "r54321,r54321,r54321,r54321,r54321,r54321,r54321,r54321,r54321,r54321,r54321,r54321";
        s.test("CLAUSES, 1 to 12, with ; between",
            "text  -10",
            "text k 1",
            "text k,k 2",
            "text k,k,k,k,k,k,k,k,k,k,k 11",
            "text k,k,k,k,k,k,k,k,k,k,k,k 12",
            "text k,k,k,k,k,k,k,k,k,k,k,k, -33",
            "text k,k,k,k,k,k,k,k,k,k,k,k,k -33; count(3) 0; count(4) 0",
            "text , -10",
            "text k, -12",
            "text ,k -10",
            "text k,,k -12",
            "text kk -11",
            "letters(5) 3; text " + most + " 12",
            "letters(5) 3; text " + most + ", -93",
            "letters(5) 3; text " + most + ",r54321 -93",
            "letters(5) 3; text " + most + "1 -93");
        s.test("NUMBER: 1 to 3 digits.",
            "text l0 -12; text l0, -12; text l05 1; of(0, 2) 5; text l099 1; of(0, 2) 99; text l0007 1; of(0, 2) 7; text l0099 1; "
                + "text l0999 0; of(0, 2) 99; text l00990 -15; text l01234 -15");
        s.test("Nothing else stands between (no blanks).",
            "text k k -11",
            "text k ,k -11",
            "text k, k -12",
            "text l 05 -11",
            "text l0 5 -12",
            "text w0 1 -12",
            "text r3 21 -12",
            "text n 3 -11",
            "feed(32) 1; feed(107) 2; read() -10",
            "feed(107) 1; feed(32) 2; read() -11",
            "feed(107) 1; feed(10) 2; read() -11",
            "feed(107) 1; feed(44) 2; feed(107) 3; read() -11");
        s.test("The FAULT: the place of the first byte with which none begins so (the end of THE TEXT, if it ends too early).",
            "text x -10",
            "text xyz -10",
            "text kx -11",
            "text K -10",
            "text k,x -12",
            "text k,kx -13",
            "text nx -11",
            "text n3x -12",
            "text lx -11",
            "text l0x -12",
            "text l05x -13",
            "text l055x -14",
            "text l0555x -15",
            "text rx -11",
            "text r3x -12",
            "text r32154x -16",
            "text r321545 -16",
            "text bx -11",
            "text b0x -12",
            "text wx -11",
            "text w0x -12",
            "text w01x -13",
            "text sx -11",
            "text ux -11",
            // The end, if it ends too early.
            "text  -10",
            "text k, -12",
            "text n -11",
            "text l -11",
            "text l0 -12",
            "text r -11",
            "text b -11",
            "text w -11",
            "text w0 -12",
            "text k,k,k,w1 -18",
            // The sign ahead of 0, the one behind 9.
            "feed(110) 1; feed(47) 2; read() -11",
            "feed(110) 1; feed(58) 2; read() -11",
            "feed(0) 1; read() -10",
            "feed(127) 1; read() -10");
        s.test("Without it they are done, one behind the other; those that would be refused aren't.",
            "text n4,l35,n3,l35 3; told(0) 3; told(1) 3",
            "text s,s,s 0; told(1) 3",
            "text u,l05,u,u 2; of(0, 2) 1; count(4) 0",
            "text l05,l09,x -18; told(1) 3; count(4) 0",
            "text l05,k, -16; told(1) 3; count(4) 0",
            "text n9,n2,n8 1; told(0) 2",
            "text l05,l15,b1,b0 4; told(1) 26");
    }

    private static void clauses(Sentences s) {
        s.test("n DIGIT (as letters())",
            "text n2 1; told(0) 2; text n5 1; told(0) 5; text n1 0; text n6 0; text n0 0; text n9 0; told(0) 5; text n -11; "
                + "text n33 -12; text nk -11");
        s.test("l DIGIT NUMBER (LETTER, LENGTH; as length())",
            "text l099 1; of(0, 2) 99; text l0100 0; text l00 0; of(0, 2) 99; text l01 1; of(0, 2) 1; text l25 1; of(2, 2) 5; "
                + "text l35 0; text l95 0; told(1) 7; count(4) 3");
        s.test("r and 1 to 5 DIGITS (a CODE; as bottom())",
            "text r -11; text r, -11; text r1 0; text r21 0; text r123 1; told(2) 123; text r4321 0; text r54321 0; text r322 0; "
                + "text r0 0; text r321543 -16; told(2) 123; count(4) 0",
            "letters(2) 3; text r12 1; told(2) 12; text r1 0",
            "letters(5) 3; text r12345 1; told(2) 12345; text r1234 0");
        s.test("s (as step())",
            "text s 0; text l05,s 2; told(2) 231; count(4) 2; text s1 -11");
        s.test("b DIGIT (as back())",
            "text b0 1; told(1) 4; told(2) 312; text b2 0; text b9 0; told(1) 4; text b -11; text b00 -12; letters(3) 3; "
                + "text b1 1; told(2) 231",
            "bottom(213) 1; text b0,b1 0",
            "length(2, 99) 1; text b0 0; count(4) 1");
        s.test("w DIGIT DIGIT (as swap())",
            "text w01 1; told(2) 312; text w00 0; text w03 0; text w30 0; text w99 0; told(2) 312; count(4) 1; text w -11; "
                + "text w0 -12; text w012 -13");
        s.test("k (as keep())",
            "swap(0, 1) 1; text k 1; told(3) 312; count(4) 1; text k1 -11");
        s.test("u (as takeBack())",
            "text u 0; length(0, 5) 1; text u 1; of(0, 2) 1; count(4) 0; text u 0; text u1 -11");
    }

    private static void asked(Sentences s) {
        s.test("All that follows is asked, and changes nothing.",
            "length(0, 5) 1; see(0, 2) 1; event(0, 0) 1; book(0, 5) 1; feed(107) 1; told(9) 2; told(10) 4; point(0, 2) 4; "
                + "gone(0, 9999) 6; code(0) 231; next(312, 0) 321; meeting(0) 2; fits(0, 0) 40; odds(0) 2; mean(0) 20; "
                + "after(1) 231; looked() -5; told(2) 321; told(1) 7; count(0) 1; count(1) 1; count(2) 1; count(3) 1; count(4) 1; "
                + "of(0, 2) 5");
        s.test("PERIOD of a POINT: the fewest times (1 at least) that it GOES till it is where it was.",
            "bottom(123) 1; point(0, 2) 1; point(2, 2) 1",
            "point(1, 2) 1; point(0, 2) 2; point(2, 2) 2",
            "letters(2) 3; length(0, 99) 1; length(1, 98) 1; point(0, 2) 197; point(196, 2) 197; point(197, 2) -1",
            "letters(2) 3; length(0, 99) 1; length(1, 99) 1; point(0, 2) 2; point(197, 2) 2");
        s.test("ROUNDS: how many unlike lots of POINTS there are that GO to one another.",
            "letters(2) 3; told(9) 1",
            "told(9) 2",
            "letters(2) 3; length(0, 99) 1; length(1, 98) 1; told(9) 1",
            "letters(5) 3; bottom(12345) 1; length(0, 99) 1; length(1, 99) 1; length(2, 99) 1; length(3, 99) 1; length(4, 99) 1; "
                + "told(9) 495");
        s.test("ENDS: how many STEPS there are, one behind the other, LENGTHS as they are, till there is none (9999 at most).",
            "told(10) 0; length(0, 2) 1; told(10) 1; told(2) 321",
            "bottom(123) 1; length(0, 50) 1; told(10) 0",
            "letters(2) 3; length(0, 99) 1; told(10) 98; length(1, 98) 1; told(10) 98; length(1, 99) 98; told(10) 0",
            // The longest that a search found: more than any one LENGTH.
            "letters(5) 3; bottom(53124) 1; length(0, 99) 1; length(1, 99) 1; length(2, 2) 1; length(3, 99) 1; length(4, 2) 1; "
                + "told(10) 223");
    }

    private static void meetings(Sentences s) {
        s.test("MEETINGS 0 .. n.",
            "meeting(-1) -1; meeting(0) 2; meeting(3) 1; meeting(4) -1",
            "letters(2) 3; meeting(2) 0; meeting(3) -1",
            "letters(5) 3; meeting(5) 3; meeting(6) -1");
        s.test("Places in TOP, in BOTTOM being counted from 1 here:",
            "bottom(123) 1; meeting(0) 0; meeting(1) 1; meeting(2) 2; meeting(3) 3");
        s.test("MEETING 0 leads to that of the place in TOP of the first LETTER of BOTTOM, less 1;",
            "meeting(0) 2; bottom(123) 1; meeting(0) 0; bottom(231) 1; meeting(0) 1",
            "letters(5) 3; meeting(0) 4; bottom(12345) 1; meeting(0) 0",
            "length(0, 5) 1; step() 1; of(0, 1) 2; of(1, 0) 2; meeting(0) 1");
        s.test("MEETING j (1 .. n), if the LETTER at place j of TOP is the last one of BOTTOM, to MEETING n;",
            "meeting(1) 3; bottom(123) 1; meeting(3) 3; bottom(132) 1; meeting(2) 3",
            "letters(5) 3; meeting(1) 5; bottom(12345) 1; meeting(5) 5");
        s.test("else to that of the place in TOP of the LETTER right behind it in BOTTOM, less 1.",
            "meeting(2) 0; meeting(3) 1; bottom(123) 1; meeting(1) 1; meeting(2) 2",
            "letters(5) 3; meeting(2) 0; meeting(5) 3; bottom(12345) 1; meeting(1) 1; meeting(4) 4");
        s.test("CORNERS: how many lots of MEETINGS there are that lead to one another (one behind the other, round about).",
            "letters(2) 3; told(7) 1; bottom(12) 1; told(7) 3",
            "told(7) 2; bottom(123) 1; told(7) 4",
            "letters(4) 3; told(7) 1; bottom(1234) 1; told(7) 5",
            "letters(5) 3; told(7) 2; bottom(12345) 1; told(7) 6; bottom(23451) 1; told(7) 4");
        s.test("GENUS, if it is WHOLE: (n and 1, less CORNERS) by 2.",
            "letters(2) 3; told(8) 1; bottom(12) 1; told(8) -5",
            "told(8) 1; bottom(132) 1; told(8) -5; bottom(213) 1; told(8) -5",
            "letters(4) 3; told(8) 2; bottom(3412) 1; told(8) 1; bottom(2143) 1; told(8) -5",
            "letters(5) 3; told(8) 2; bottom(23451) 1; told(8) 1; bottom(12345) 1; told(8) -5");
    }

    private static void seen(Sentences s) {
        s.test("SEEN told by hand: a POINT, where it went (4 rows at most).",
            "see(0, 0) 1; see(0, 0) 2; see(0, 0) 3; count(0) 3; see(0, 0) 4; count(0) 4; see(0, 0) -4; count(0) 4; see(-1, 0) 0; "
                + "see(0, 0) 1");
        s.test("FITS of a LETTER: how many LENGTHS 1 .. 40 there are by which, were each its own alone, all of SEEN would be so",
            // Point 0 goes behind letters 2 and 1, the other of which is 1 long: 0 is too small, 1 and 40 fit, 41 is too great.
            "see(0, 1) 1; fits(1, 0) 0",
            "see(0, 2) 1; fits(1, 0) 1; fits(1, 1) 1",
            "see(0, 41) 1; fits(1, 0) 1; fits(1, 1) 40; fits(2, 1) 40; fits(0, 0) 0",
            "see(0, 42) 1; fits(1, 0) 0; fits(2, 0) 0",
            "fits(0, 0) 40; fits(0, 1) 1; fits(2, 0) 40",
            "length(1, 99) 1; fits(1, 0) 40; see(0, 2) 1; fits(1, 1) 1; fits(2, 0) 0; of(1, 2) 99",
            "see(0, 2) 1; see(2, 0) 2; see(1, 1) 3; see(0, 2) 4; fits(0, 0) 1; fits(1, 0) 1; fits(2, 0) 1",
            "see(0, 2) 1; see(1, 1) 2; see(2, 0) 3; see(0, 3) 4; fits(0, 0) 0; fits(1, 0) 0; fits(2, 0) 0");
        s.test("(of a POINT that there isn't it isn't)",
            "bottom(123) 1; see(3, 3) 1; fits(0, 0) 39; fits(0, 1) 2",
            "bottom(123) 1; see(41, 41) 1; fits(0, 0) 1; fits(0, 1) 40",
            "bottom(123) 1; see(42, 42) 1; fits(0, 0) 0; fits(0, 1) -5",
            "see(499, 499) 1; fits(0, 0) 0",
            "letters(5) 3; bottom(12345) 1; length(0, 99) 1; length(1, 99) 1; length(2, 99) 1; length(3, 99) 1; see(435, 435) 1; "
                + "fits(4, 0) 1; fits(4, 1) 40; see(436, 436) 2; fits(4, 0) 0");
        s.test("the least (-5: none).",
            "fits(1, 1) 1; see(0, 7) 1; fits(1, 1) 6; fits(0, 1) -5; see(0, 8) 2; fits(1, 1) -5");
        s.test("ODDS: POINTS being alike likely, how likely one GOES to a lesser one: a fraction in lowest terms.",
            "odds(0) 1; odds(1) 3",
            "bottom(123) 1; odds(0) 0; odds(1) 1",
            "letters(2) 3; length(0, 2) 1; length(1, 4) 1; odds(0) 2; odds(1) 3",
            "letters(2) 3; length(0, 1) 1; length(1, 99) 1; odds(0) 99; odds(1) 100",
            "letters(2) 3; length(0, 99) 1; length(1, 99) 1; odds(0) 1; odds(1) 2",
            "letters(2) 3; length(0, 99) 1; odds(0) 1; odds(1) 100");
        s.test("MEAN: how far POINTS GO (without sign), together, by how many there are: a fraction in lowest terms.",
            "mean(0) 4; mean(1) 3",
            "bottom(123) 1; mean(0) 0; mean(1) 1",
            "letters(2) 3; mean(0) 1; mean(1) 1",
            "letters(2) 3; length(0, 2) 1; length(1, 4) 1; mean(0) 8; mean(1) 3",
            "letters(2) 3; length(0, 99) 1; length(1, 99) 1; mean(0) 99; mean(1) 1",
            "letters(5) 3; length(0, 99) 1; length(1, 99) 1; length(2, 99) 1; length(3, 99) 1; length(4, 99) 1; mean(0) 1188; "
                + "mean(1) 5");
    }

    private static void events(Sentences s) {
        s.test("0 a STEP, if there is one;",
            "event(0, 0) 1; after(0) 3; after(1) 321; length(0, 3) 1; after(0) 4; after(1) 231; event(0, 0) 2; after(0) 3; "
                + "after(1) 321; event(0, 0) 3; after(0) 3; after(1) 321",
            "bottom(123) 1; length(0, 3) 1; event(0, 0) 1; after(0) 5; after(1) 123");
        s.test("1 LENGTH of LETTER n is 1 more, 99 at most, if there is that LETTER;",
            "event(1, 2) 1; after(0) 4; length(2, 97) 1; after(0) 100; length(2, 98) 97; after(0) 101; length(2, 99) 98; "
                + "after(0) 101; of(2, 2) 99",
            "length(1, 98) 1; event(1, 1) 1; event(1, 1) 2; after(0) 101",
            "letters(5) 3; event(1, 4) 1; event(1, 1) 2; after(0) 7; letters(4) 5; after(0) 5; letters(2) 4; after(0) 3; "
                + "letters(5) 2; after(0) 7");
        s.test("2 a STEP BACK of KIND n, if there is one, and no LENGTH is above 99 then;",
            "event(2, 0) 1; after(0) 4; after(1) 312; bottom(213) 1; after(0) 3; after(1) 213",
            "event(2, 1) 1; after(0) 4; after(1) 231; bottom(213) 1; after(0) 3; after(1) 213",
            "length(2, 98) 1; event(2, 0) 1; after(0) 101; after(1) 312; length(2, 99) 98; after(0) 101; after(1) 321",
            "length(0, 98) 1; event(2, 1) 1; after(0) 101; after(1) 231; length(0, 99) 98; after(0) 101; after(1) 321",
            "length(1, 99) 1; event(2, 0) 1; event(2, 1) 2; after(0) 101; after(1) 321");
        s.test("8 rows at most): AFTER, behind all of it: how many POINTS; CODE; whether it is WHOLE (1, 0).",
            "after(0) 3; after(1) 321; after(2) 1",
            Sentences.counted("event(1, 0) #; ", 1, 7) + "after(0) 10; event(1, 0) 8; after(0) 11; event(1, 0) -4; after(0) 11; "
                + "count(1) 8; told(1) 3",
            "bottom(213) 1; event(1, 0) 1; after(2) 0; bottom(231) 1; after(2) 1",
            "event(1, 0) 1; event(0, 0) 2; after(0) 3; after(1) 231; event(-1, 0) 0; event(0, 0) 1; event(1, 0) 2; after(0) 4; "
                + "after(1) 321");
    }

    private static void books(Sentences s) {
        s.test("A BOOK told by hand: LETTERS, LENGTHS (8 rows at most)",
            Sentences.counted("book(0, 1) #; ", 1, 8) + "book(0, 1) -4; count(2) 8; looked() -5; book(-1, 0) 0; book(0, 1) 1",
            Sentences.counted("book(0, 1) #; ", 1, 7) + "book(0, 2) 8; looked() 7; book(0, 3) -4; looked() 7; length(0, 2) 1; "
                + "looked() 0");
        s.test("LOOKED at: the number (from 0) of the first of these rows whose LETTER isn't there, or which is otherwise now "
                + "(-5: none).",
            "looked() -5; book(0, 2) 1; looked() 0",
            "book(0, 1) 1; book(2, 1) 2; looked() -5; letters(2) 3; looked() 1; letters(3) 2; looked() -5",
            "book(2, 1) 1; letters(2) 3; looked() 0; book(0, 1) 2; looked() 0",
            "book(0, 99) 1; looked() 0; length(0, 98) 1; looked() 0; length(0, 99) 98; looked() -5",
            "book(0, 1) 1; book(1, 5) 2; book(2, 5) 3; looked() 1; length(1, 5) 1; looked() 2; length(2, 5) 1; looked() -5");
    }

    private static void tapes(Sentences s) {
        s.test("THE IMAGE: n, TOP, BOTTOM, LENGTHS, KEPT, SEEN, EVENTS, the BOOK.",
            "letters(4) 3; length(0, 9) 1; step() 1; keep() 2431; swap(0, 1) 1; see(1, 2) 1; see(3, 4) 2; event(1, 3) 1; "
                + "book(3, 9) 1; book(3, 8) 2; book(3, 7) 3; image() 11; letters(2) 4; see(-1, 0) 0; event(-1, 0) 0; "
                + "book(-1, 0) 0; undo() 11; told(0) 4; of(0, 0) 0; of(1, 0) 3; of(2, 0) 1; of(3, 0) 2; of(0, 1) 3; of(1, 1) 2; "
                + "of(2, 1) 0; of(3, 1) 1; of(0, 2) 8; told(3) 2431; count(0) 2; count(1) 1; count(2) 3; after(0) 12; looked() 0",
            // Rows come back as they were, both numbers of each.
            "see(0, 11) 1; event(1, 2) 1; event(2, 0) 2; book(1, 7) 1; book(2, 1) 2; length(1, 7) 1; looked() -5; image() 9; "
                + "see(-1, 0) 0; see(5, 6) 1; event(-1, 0) 0; event(0, 0) 1; book(-1, 0) 0; book(0, 3) 1; letters(3) 3; undo() 9; "
                + "fits(1, 0) 1; fits(1, 1) 10; after(0) 17; after(1) 312; looked() -5; length(1, 8) 7; looked() 0",
            // THE TEXT and the TAPES are not of it.
            "feed(107) 1; tape(0, 1, 3) 1; image() 3; feed(107) 2; item(0, 1, 7) 1; tape(1, 2, 4) 1; undo() 3; count(3) 2; "
                + "peek(0, 1) 7; peek(1, 3) 0; read() -11",
            "see(1, 2) 1; image() 3; see(3, 4) 2; undo() 3; count(0) 1; image() 3; letters(5) 3; letters(2) 5; undo() 3; told(0) 3");
        s.test("TAPES 0 .. 5 hold nothing (at first),",
            "peek(0, 0) NO; peek(5, 0) NO; item(0, 0, 1) -11; item(5, 0, 1) -11; item(6, 0, 1) -1; item(-1, 0, 1) -1; "
                + "judge(5, 0) 100; judge(6, 0) -1; tape(5, 0, 1) 1; tape(6, 0, 1) -1; tape(-1, 0, 1) -1; tape(0, 0, 1) 1; "
                + "peek(0, 0) 0; peek(5, 0) 0; peek(4, 0) NO");
        s.test("or a row of 0 bytes, 1 shorts, 2 ints, 3 longs, 4 booleans (items 0, 1).",
            "tape(0, -2, 1) -2; tape(0, 0, 1) 1; item(0, 0, 127) 1; peek(0, 0) 127; item(0, 0, 128) 1; peek(0, 0) -128",
            "tape(0, 1, 1) 1; item(0, 0, 32767) 1; peek(0, 0) 32767; item(0, 0, 32768) 1; peek(0, 0) -32768",
            "tape(0, 2, 1) 1; item(0, 0, 2147483647) 1; peek(0, 0) 2147483647; item(0, 0, 2147483648) 1; peek(0, 0) -2147483648",
            "tape(0, 3, 1) 1; item(0, 0, 9223372036854775807) 1; peek(0, 0) 9223372036854775807",
            "tape(0, 5, 1) -2; tape(0, 4, 1) 1; peek(0, 0) 0; item(0, 0, 1) 1; peek(0, 0) 1; item(0, 0, 2) 1; peek(0, 0) 1; "
                + "item(0, 0, 0) 1; peek(0, 0) 0");
        s.test("LENGTHS of LETTERS 0, 1, .. told by a row of shorts, from a place on, are JUDGED: the first LETTER that is "
                + "otherwise; -5: none;",
            "tape(0, 1, 4) 1; item(0, 1, 1) 1; item(0, 2, 1) 1; item(0, 3, 1) 1; judge(0, 0) 0; judge(0, 1) -5; length(2, 2) 1; "
                + "judge(0, 1) 2; length(1, 2) 1; judge(0, 1) 1; length(0, 2) 1; judge(0, 1) 0",
            "letters(2) 3; tape(0, 1, 2) 1; item(0, 0, 1) 1; judge(0, 0) 1; item(0, 1, 1) 1; judge(0, 0) -5");
        s.test("100 and how many were looked at, if the row ends ahead of that (or the place is below 0, or the TAPE holds "
                + "nothing).",
            "letters(5) 3; tape(0, 1, 5) 1; item(0, 0, 1) 1; item(0, 1, 1) 1; item(0, 2, 1) 1; item(0, 3, 1) 1; item(0, 4, 1) 1; "
                + "judge(0, 0) -5; judge(0, 1) 104; judge(0, 2) 103; judge(0, 3) 102; judge(0, 4) 101; judge(0, 5) 100; "
                + "judge(0, 6) 100; judge(0, 2147483647) 100; judge(0, -1) 100; judge(0, -2147483648) 100; item(0, 4, 2) 1; "
                + "judge(0, 1) 3",
            "judge(0, 0) 100; judge(0, -1) 100; judge(0, 7) 100; tape(0, 1, 0) 1; judge(0, 0) 100; tape(0, -1, 0) 1; "
                + "judge(0, 0) 100");
        s.test("The host's refusals: NOTHING (-11): nothing is there;",
            "item(0, 0, 1) -11; shift(0, 0, 0, 0, 0) -11; tape(0, 1, 0) 1; shift(0, 0, 1, 0, 0) -11; shift(1, 0, 0, 0, 0) -11; "
                + "item(0, 0, 1) -13; shift(0, 0, 0, 0, 0) 0");
        s.test("CAST (-12): another sort;",
            "tape(0, 1, 1) 1; tape(1, 2, 1) 1; shift(0, 0, 1, 0, 1) -12; shift(1, 0, 0, 0, 1) -12; judge(1, 0) -12; judge(0, 0) 0");
        s.test("PLACE (-13): no such place;",
            "tape(0, 3, 60) 1; item(0, 59, 1) 1; item(0, 60, 1) -13; item(0, -1, 1) -13; shift(0, 60, 0, 0, 1) -13; "
                + "shift(0, 0, 0, 60, 1) -13");
        s.test("SIZE (-14): a size below 0.",
            "tape(0, 1, -1) -14; peek(0, 0) NO; item(0, 0, 1) -11; tape(0, 1, 0) 1; item(0, 0, 1) -13; tape(0, 1, -2147483648) -14");
    }

    private static void answers(Sentences s) {
        s.test("Answers: NONE (-1) no such number;",
            "length(3, 1) -1; swap(0, 3) -1; back(2) -1; of(3, 0) -1; told(11) -1; point(3, 0) -1; gone(3, 0) -1; code(-1) -1; "
                + "next(321, 2) -1; meeting(4) -1; fits(3, 0) -1; event(3, 0) -1; after(3) -1; book(3, 1) -1; judge(6, 0) -1; "
                + "tape(6, 0, 0) -1; item(6, 0, 0) -1; shift(6, 0, 0, 0, 0) -1");
        s.test("BAD (-2) a number is not as told;",
            "letters(6) -2; bottom(322) -2; length(0, 100) -2; feed(128) -2; gone(0, 10000) -2; next(322, 0) -2; see(500, 0) -2; "
                + "event(0, 1) -2; book(0, 100) -2; count(5) -2; tape(0, 5, 0) -2; length(2, 99) 1; back(0) -2");
        s.test("STATE (-3) as told;",
            "step() -3; takeBack() -3; undo() -3; bottom(123) 1; back(0) -3; back(1) -3");
        s.test("FULL (-4);",
            "see(0, 0) 1; see(0, 0) 2; see(0, 0) 3; see(0, 0) 4; see(0, 0) -4; " + Sentences.counted("event(0, 0) #; ", 1, 8)
                + "event(0, 0) -4; " + Sentences.counted("book(0, 1) #; ", 1, 8) + "book(0, 1) -4; "
                + Sentences.counted("feed(0) #; ", 1, 100) + "feed(0) -4");
        s.test("the first that a call's words name.",
            "length(3, 0) -1; gone(3, -1) -1; next(0, 2) -1; event(3, 1) -1; book(3, 0) -1; tape(6, 5, 61) -1; tape(6, 0, -1) -1; "
                + "tape(0, 5, -1) -2; item(6, 0, 0) -1; item(0, -1, 0) -11; judge(6, -1) -1; bottom(213) 1; back(2) -1",
            Sentences.counted("feed(0) #; ", 1, 100) + "feed(128) -2; feed(-1) -2; feed(0) -4",
            Sentences.counted("see(0, 0) #; ", 1, 4) + "see(500, 0) -2; see(0, 500) -2; see(0, 0) -4",
            Sentences.counted("event(0, 0) #; ", 1, 8) + "event(3, 0) -1; event(1, 3) -1; event(2, 2) -1; event(0, 1) -2; "
                + "event(0, 0) -4",
            Sentences.counted("book(0, 1) #; ", 1, 8) + "book(3, 0) -1; book(0, 0) -2; book(0, 1) -4",
            "shift(6, -1, 0, 0, 0) -1; shift(0, -1, 6, 0, 0) -1; shift(0, -1, 1, 0, 0) -11; tape(0, 0, 1) 1; "
                + "shift(0, -1, 1, 0, 0) -11; tape(1, 1, 1) 1; shift(0, -1, 1, 0, 0) -12; judge(0, -1) -12; tape(1, 0, 1) 1; "
                + "shift(0, -1, 1, 0, 0) -13");
        s.test("What is answered so changes nothing; what is asked changes nothing.",
            "length(0, 5) 1; keep() 321; see(0, 2) 1; event(1, 0) 1; book(0, 5) 1; feed(107) 1; tape(0, 1, 3) 1; item(0, 1, 7) 1; "
                + "image() 7; letters(6) -2; bottom(322) -2; length(0, 100) -2; length(3, 1) -1; swap(1, 1) -1; back(2) -1; "
                + "feed(128) -2; see(500, 0) -2; event(3, 0) -1; book(3, 1) -1; tape(0, 5, 1) -2; tape(0, 1, 61) -2; "
                + "tape(0, 1, -1) -14; item(0, 3, 1) -13; shift(0, 0, 0, 1, 3) -13; told(5) 3; told(6) 0; told(10) 4; "
                + "point(0, 2) 4; gone(0, 5) 2; fits(0, 0) 40; after(1) 321; judge(0, 0) 0; told(1) 7; told(2) 321; told(3) 321; "
                + "count(0) 1; count(1) 1; count(2) 1; count(3) 1; count(4) 1; peek(0, 0) 0; peek(0, 1) 7; peek(0, 2) 0; "
                + "takeBack() 0; of(0, 2) 1; undo() 7; of(0, 2) 5; read() 1");
        s.test("`NO = Long.MIN_VALUE`: There is no such number.",
            "odds(2) NO; mean(2) NO; peek(0, 0) NO; tape(0, 3, 1) 1; item(0, 0, NO) 1; peek(0, 0) NO");
    }
}
