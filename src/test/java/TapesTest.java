/** Promises 27 to 34: judge, image, undo, count, tape, item, peek, shift. */
public final class TapesTest {
    public static void main(String[] args) {
        Runs runs = new Runs("TapesTest");
        judge(runs);
        image(runs);
        count(runs);
        tape(runs);
        item(runs);
        shift(runs);
        runs.end();
    }

    private static void judge(Runs runs) {
        runs.run("27 refused", "judge(-1, 0) -1; judge(6, 0) -1; judge(5, 0) 100; judge(0, -1) 100; tape(0, 0, 5) 1; judge(0, 0) -12; judge(0, -1) -12"
            + "; judge(0, 99) -12; tape(0, 2, 5) 1; judge(0, 0) -12; tape(0, 3, 5) 1; judge(0, 0) -12; tape(0, 4, 5) 1; judge(0, 0) -12"
            + "; tape(0, -1, 0) 1; judge(0, 0) 100");
        runs.run("27 ordinary", "length(1, 7) 1; length(2, 99) 1; tape(5, 1, 5) 1; item(5, 1, 1) 1; item(5, 2, 7) 1; item(5, 3, 99) 1"
            + "; judge(5, 1) -5; judge(5, 0) 0; judge(5, 2) 0; judge(5, 5) 100; judge(5, 6) 100; judge(5, -1) 100; judge(5, 2147483647) 100"
            + "; judge(5, -2147483648) 100; length(1, 8) 7; judge(5, 1) 1; length(1, 7) 8; length(2, 98) 99; judge(5, 1) 2");
        runs.run("27 the row ends", "tape(0, 1, 3) 1; item(0, 1, 1) 1; item(0, 2, 1) 1; judge(0, 1) 102; judge(0, 2) 101; judge(0, 3) 100; item(0, 2, 2) 1; judge(0, 1) 1"
            + "; letters(2) 3; item(0, 2, 1) 1; judge(0, 1) -5; tape(0, 1, 0) 1; judge(0, 0) 100");
        runs.run("27 shorts wrap", "tape(0, 1, 3) 1; item(0, 0, 65537) 1; item(0, 1, -65535) 1; item(0, 2, 1) 1; judge(0, 0) -5");
    }

    private static void image(Runs runs) {
        runs.run("28, 29", "undo() -3; letters(4) 3; bottom(2413) 1; length(2, 7) 1; keep() 2413; see(1, 2) 1; event(1, 3) 1; book(3, 9) 1; image() 10"
            + "; count(4) 1; letters(2) 4; see(-1, 0) 0; event(-1, 0) 0; book(-1, 0) 0; feed(115) 1; tape(0, 1, 4) 1; undo() 10"
            + "; told(0) 4; told(2) 2413; told(3) 2413; of(2, 2) 7; count(0) 1; count(1) 1; count(2) 1; count(3) 1; count(4) 0; takeBack() -3"
            + "; looked() 0; after(0) 11; peek(0, 3) 0; judge(0, 0) 0");
        runs.run("29 again, and anew", "image() 3; length(0, 5) 1; undo() 3; of(0, 2) 1; length(0, 9) 1; undo() 3; length(0, 4) 1; image() 6; letters(5) 3; undo() 6; told(0) 3"
            + "; of(0, 2) 4; see(0, 0) 1; see(0, 0) 2; image() 6; see(0, 0) 3; undo() 6; count(0) 2");
        runs.run("29 top is as it was", "length(0, 5) 1; step() 1; image() 6; letters(3) 3; undo() 6; of(1, 0) 2; of(2, 0) 1; told(2) 231; told(3) 321");
        runs.run("29 no deed can be taken back behind it", "image() 3; length(0, 5) 1; swap(0, 1) 1; count(4) 2; undo() 3; count(4) 0; takeBack() -3; told(1) 3");
        runs.run("28 deeds stay", "length(0, 5) 1; image() 7; count(4) 1; takeBack() 0; of(0, 2) 1; undo() 7; of(0, 2) 5; count(4) 0");
    }

    private static void count(Runs runs) {
        runs.run("30", "count(-1) -2; count(5) -2; count(2147483647) -2; see(0, 0) 1; count(0) 1; event(0, 0) 1; event(0, 0) 2; count(1) 2; book(0, 1) 1"
            + "; book(0, 1) 2; book(0, 1) 3; count(2) 3; feed(1) 1; count(3) 1; swap(0, 1) 1; count(4) 1; keep() 312; count(4) 1");
    }

    private static void tape(Runs runs) {
        runs.run("31", "tape(-1, 0, 1) -1; tape(6, 0, 1) -1; tape(6, 9, 99) -1; tape(0, 5, 1) -2; tape(0, -2, 1) -2; tape(0, 5, -1) -2; tape(0, 0, 61) -2; tape(0, 0, -1) -14"
            + "; tape(0, 4, -2147483648) -14; tape(0, 0, 60) 1; tape(0, 0, 0) 1; peek(0, 0) NO; tape(0, 3, 60) 1; item(0, 59, -1) 1; peek(0, 59) -1"
            + "; tape(0, 3, 60) 1; peek(0, 59) 0; item(0, 3, 8) 1; tape(0, 3, 61) -2; tape(0, 3, -1) -14; peek(0, 3) 8; tape(0, -1, -77) 1; peek(0, 3) NO; tape(0, -1, 99) 1"
            + "; item(0, 3, 8) -11");
    }

    private static void item(Runs runs) {
        runs.run("32, 33", "item(-1, 0, 1) -1; item(6, 0, 1) -1; item(0, 0, 1) -11; item(0, -1, 1) -11; tape(0, 0, 2) 1; item(0, -1, 1) -13; item(0, 2, 1) -13"
            + "; item(0, 2147483647, 1) -13; item(0, 0, 255) 1; peek(0, 0) -1; item(0, 0, 128) 1; peek(0, 0) -128; item(0, 1, 256) 1; peek(0, 1) 0"
            + "; peek(-1, 0) NO; peek(6, 0) NO; peek(0, -1) NO; peek(0, 2) NO; peek(1, 0) NO");
        runs.run("32 sorts", "tape(1, 1, 1) 1; item(1, 0, 32768) 1; peek(1, 0) -32768; item(1, 0, -32769) 1; peek(1, 0) 32767"
            + "; tape(2, 2, 1) 1; item(2, 0, 2147483648) 1; peek(2, 0) -2147483648; item(2, 0, 4294967297) 1; peek(2, 0) 1"
            + "; tape(3, 3, 1) 1; item(3, 0, 9223372036854775807) 1; peek(3, 0) 9223372036854775807; item(3, 0, NO) 1; peek(3, 0) NO"
            + "; tape(4, 4, 1) 1; item(4, 0, 256) 1; peek(4, 0) 1; item(4, 0, 4294967296) 1; peek(4, 0) 1; item(4, 0, 0) 1; peek(4, 0) 0; item(4, 0, -3) 1; peek(4, 0) 1");
    }

    private static void shift(Runs runs) {
        runs.run("34 refused", "shift(-1, 0, 0, 0, 0) -1; shift(0, 0, 6, 0, 0) -1; shift(0, 0, 1, 0, 0) -11; tape(0, 0, 3) 1; shift(0, 0, 1, 0, 0) -11; shift(1, 0, 0, 0, 0) -11"
            + "; tape(1, 1, 4) 1; shift(0, 0, 1, 0, 0) -12; shift(0, -1, 1, 0, 9) -12; tape(1, 0, 4) 1; shift(0, 0, 1, 0, 4) -13; shift(1, 0, 0, 0, 4) -13; shift(0, -1, 1, 0, 1) -13"
            + "; shift(0, 0, 1, -1, 1) -13; shift(0, 0, 1, 0, -1) -13; shift(0, 4, 1, 0, 0) -13; shift(0, 0, 1, 5, 0) -13; shift(0, 3, 1, 4, 0) 0"
            + "; shift(0, 2147483647, 1, 0, 1) -13; shift(0, 1, 1, 0, 2147483647) -13; shift(0, 2147483647, 1, 2147483647, 2147483647) -13; shift(0, 0, 0, 0, -2147483648) -13");
        runs.run("34 to another", "tape(0, 3, 3) 1; tape(1, 3, 4) 1; item(0, 0, 5) 1; item(0, 1, 6) 1; item(0, 2, 7) 1; shift(0, 1, 1, 2, 2) 2; peek(1, 0) 0; peek(1, 1) 0; peek(1, 2) 6; peek(1, 3) 7; peek(0, 1) 6");
        String filled = "tape(0, 2, 5) 1; item(0, 0, 1) 1; item(0, 1, 2) 1; item(0, 2, 3) 1; item(0, 3, 4) 1; item(0, 4, 5) 1; ";
        runs.run("34 to itself, on", filled + "shift(0, 0, 0, 1, 4) 4; peek(0, 0) 1; peek(0, 1) 1; peek(0, 2) 2; peek(0, 3) 3; peek(0, 4) 4");
        runs.run("34 to itself, back", filled + "shift(0, 1, 0, 0, 4) 4; peek(0, 0) 2; peek(0, 1) 3; peek(0, 2) 4; peek(0, 3) 5; peek(0, 4) 5");
    }
}
