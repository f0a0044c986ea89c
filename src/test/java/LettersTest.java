/** Promises 1 to 11: a new object, letters, bottom, length, swap, step, back, takeBack, keep, feed, read. */
public final class LettersTest {
    public static void main(String[] args) {
        Runs runs = new Runs("LettersTest");
        newObject(runs);
        letters(runs);
        bottom(runs);
        lengthAndSwap(runs);
        step(runs);
        back(runs);
        takeBack(runs);
        keep(runs);
        feed(runs);
        readFaults(runs);
        readDeeds(runs);
        runs.end();
    }

    private static void newObject(Runs runs) {
        runs.run("1 a new object", "told(0) 3; told(1) 3; told(2) 321; told(3) 321"
            + "; of(0, 0) 0; of(1, 0) 1; of(2, 0) 2; of(0, 1) 2; of(1, 1) 1; of(2, 1) 0"
            + "; of(0, 2) 1; of(1, 2) 1; of(2, 2) 1"
            + "; count(0) 0; count(1) 0; count(2) 0; count(3) 0; count(4) 0; undo() -3; peek(0, 0) NO");
    }

    private static void letters(Runs runs) {
        runs.run("2 edges", "letters(1) -2; letters(6) -2; letters(-1) -2; letters(-2147483648) -2"
            + "; letters(2147483647) -2; told(0) 3; letters(2) 3; letters(5) 2; told(2) 54321; told(3) 54321; letters(4) 5");
        runs.run("2 the same n is as at first too", "length(0, 7) 1; swap(0, 1) 1; keep() 312; letters(3) 3"
            + "; told(1) 3; told(2) 321; told(3) 321; count(4) 0; takeBack() -3");
        runs.run("2 refused: nothing is changed", "length(0, 7) 1; letters(9) -2; count(4) 1; of(0, 2) 7");
        runs.run("2 what is told by hand stays", "see(1, 2) 1; event(1, 2) 1; book(2, 9) 1; feed(115) 1"
            + "; letters(2) 3; count(0) 1; count(1) 1; count(2) 1; count(3) 1");
        runs.run("2 top is as at first", "back(1) 4; step() 1; length(2, 9) 1; step() 0; letters(3) 3"
            + "; of(0, 0) 0; of(1, 0) 1; of(2, 0) 2");
    }

    private static void bottom(Runs runs) {
        runs.run("3 ordinary", "letters(4) 3; length(3, 5) 1; bottom(2413) 1; told(2) 2413; told(3) 4321"
            + "; of(0, 1) 1; of(1, 1) 3; of(2, 1) 0; of(3, 1) 2; of(3, 2) 5; count(4) 0; takeBack() -3");
        runs.run("3 top becomes 0, 1, ..", "length(0, 3) 1; step() 1; of(1, 0) 2; told(2) 231; bottom(231) 1; of(0, 0) 0"
            + "; of(1, 0) 1; of(2, 0) 2; of(0, 1) 1; of(1, 1) 2; of(2, 1) 0; of(0, 2) 2");
        runs.run("3 no codes", "bottom(0) -2; bottom(-321) -2; bottom(21) -2; bottom(4321) -2; bottom(1321) -2"
            + "; bottom(311) -2; bottom(320) -2; bottom(324) -2; bottom(2147483647) -2; bottom(-2147483648) -2"
            + "; bottom(123) 1; bottom(132) 1; bottom(213) 1");
        runs.run("3 refused: deeds stay", "length(0, 3) 1; bottom(322) -2; count(4) 1; takeBack() 0; told(1) 3");
    }

    private static void lengthAndSwap(Runs runs) {
        runs.run("4", "length(0, 99) 1; length(0, 1) 99; length(2, 50) 1; told(1) 52; length(3, 1) -1; length(-1, 1) -1"
            + "; length(3, 0) -1; length(0, 0) -2; length(0, 100) -2; length(0, -5) -2; length(2, 2147483647) -2"
            + "; count(4) 3; of(2, 2) 50");
        runs.run("5", "swap(0, 2) 1; told(2) 123; swap(2, 1) 1; told(2) 132; of(1, 1) 2; of(0, 0) 0"
            + "; swap(1, 1) -1; swap(-1, 0) -1; swap(0, -1) -1; swap(3, 0) -1; swap(0, 3) -1; count(4) 2"
            + "; takeBack() 1; told(2) 123");
    }

    private static void step(Runs runs) {
        runs.run("6 kind 0", "length(2, 5) 1; step() 0; of(2, 2) 4; of(0, 1) 2; of(1, 1) 0; of(2, 1) 1; told(2) 312"
            + "; of(2, 0) 2; told(1) 6");
        runs.run("6 kind 1", "length(0, 5) 1; step() 1; of(0, 2) 4; of(0, 0) 0; of(1, 0) 2; of(2, 0) 1; told(2) 231");
        runs.run("6 a tie", "step() -3; length(0, 4) 1; length(2, 4) 1; step() -3; told(1) 9; count(4) 2");
        runs.run("6 one letter ends both", "bottom(213) 1; length(2, 5) 1; step() -3; length(2, 1) 5; step() -3; count(4) 2");
        runs.run("6 the moved one stands right behind already", "bottom(132) 1; length(2, 3) 1; step() 0; told(2) 132; told(1) 4");
    }

    private static void back(Runs runs) {
        runs.run("7 kinds", "back(2) -1; back(-1) -1; back(0) 4; told(2) 312; of(2, 2) 2; back(1) 6; of(1, 2) 3");
        runs.run("7 kind 1", "back(1) 4; told(2) 231; of(0, 2) 2; of(0, 0) 0; of(1, 0) 2; of(2, 0) 1");
        runs.run("7 none behind", "bottom(213) 1; back(0) -3; back(1) -3; count(4) 0");
        runs.run("7 none behind by one row", "bottom(123) 1; length(2, 99) 1; back(0) -3; back(1) -3");
        runs.run("7 above 99", "length(2, 98) 1; back(0) 101; of(2, 2) 99; back(0) -2; of(2, 2) 99; told(1) 101; count(4) 2");
        runs.run("7 five letters", "letters(5) 3; back(0) 6; told(2) 53214; of(4, 1) 3; of(4, 2) 2; back(1) 8; told(2) 53214; of(3, 2) 3"
            + "; letters(5) 5; back(1) 6; told(2) 43251; of(4, 0) 1; of(0, 2) 2");
        runs.run("7 it takes a step back", "length(0, 7) 1; length(1, 3) 1; length(2, 4) 1; step() 1; told(2) 231; back(1) 14; told(2) 321"
            + "; of(0, 2) 7; of(1, 0) 1; of(2, 0) 2; count(4) 5");
    }

    private static void takeBack(Runs runs) {
        runs.run("8 each sort of deed", "length(0, 9) 1; step() 1; swap(0, 1) 1; back(0) -3; length(1, 1) 1; count(4) 4"
            + "; takeBack() 3; takeBack() 2; told(2) 231; takeBack() 1; of(0, 2) 9; told(2) 321; of(1, 0) 1"
            + "; takeBack() 0; of(0, 2) 1; takeBack() -3");
        runs.run("8 a step back is taken back", "back(0) 4; takeBack() 0; told(1) 3; told(2) 321");
        runs.run("8 kept is no deed's", "swap(0, 1) 1; keep() 312; takeBack() 0; told(2) 321; told(3) 312");
        StringBuilder rows = new StringBuilder();
        for (int v = 2; v <= 16; v++) {
            rows.append("length(1, ").append(v).append(") ").append(v - 1).append("; ");
        }
        rows.append("count(4) 12; ");
        for (int i = 11; i >= 0; i--) {
            rows.append("takeBack() ").append(i).append("; of(1, 2) ").append(i + 4).append("; ");
        }
        rows.append("takeBack() -3; of(1, 2) 4; length(1, 50) 4; takeBack() 0; of(1, 2) 4");
        runs.run("8 twelve at most", rows.toString());
    }

    private static void keep(Runs runs) {
        runs.run("9", "swap(0, 1) 1; told(3) 321; keep() 312; told(3) 312; count(4) 1; bottom(321) 1; told(3) 312"
            + "; letters(3) 3; told(3) 321");
    }

    private static void feed(Runs runs) {
        runs.run("10", "feed(-1) -2; feed(128) -2; feed(0) 1; feed(127) 2; count(3) 2; read() -10; count(3) 0; feed(115) 1");
        StringBuilder rows = new StringBuilder();
        for (int i = 1; i <= 100; i++) {
            rows.append("feed(115) ").append(i).append("; ");
        }
        rows.append("feed(115) -4; feed(128) -2; feed(-1) -2; count(3) 100; read() -11; count(3) 0; feed(115) 1; count(3) 1");
        runs.run("10 full", rows.toString());
    }

    private static void readFaults(Runs runs) {
        runs.run("11 too early", "text  -10; text n -11; text l -11; text l0 -12; text r -11; text b -11; text w -11; text w1 -12"
            + "; text s, -12; text s,n -13; text k,l1 -14");
        runs.run("11 wrong bytes", "text x -10; text , -10; text S -10; text nn -11; text n,s -11; text n33 -12; text la -11"
            + "; text l0a -12; text l01a -13; text l0123,l01234 -21; text r123456 -16; text ra -11; text b01 -12"
            + "; text w012 -13; text w0a -12; text s1 -11; text k1 -11; text u, -12; text s,,s -12; text s s -11");
        runs.run("11 a fault undoes all", "text l09,l15,x -18; told(1) 3; count(4) 0; count(3) 0; text l09,l15 2; told(1) 15");
        runs.run("11 twelve clauses", "text k,k,k,k,k,k,k,k,k,k,k,k 12; text k,k,k,k,k,k,k,k,k,k,k,k, -33"
            + "; text k,k,k,k,k,k,k,k,k,k,k,k,k -33; text k,k,k,k,k,k,k,k,k,k,k,kk -33; text k,k,k,k,k,k,k,k,k,k,k, -32"
            + "; text k,k,k,k,k,k,k,k,k,k,k,x -32");
        runs.run("11 signs 0 and 127", "feed(0) 1; read() -10; feed(127) 1; read() -10; feed(115) 1; feed(0) 2; read() -11"
            + "; feed(110) 1; feed(47) 2; read() -11; feed(110) 1; feed(58) 2; read() -11");
    }

    private static void readDeeds(Runs runs) {
        runs.run("11 each clause", "text n4,l013,l15,l27,l311,s,k,s,b0 9; told(0) 4; told(3) 2431; told(2) 2431; count(4) 7"
            + "; text w01,u,u 3; count(4) 6; text r4321 1; count(4) 0; told(2) 4321");
        runs.run("11 refused ones are not counted", "text n1,n6,l30,l00,l0100,r444,r12,s,b2,w00,w03,u 0; count(4) 0; told(1) 3"
            + "; text n9,l05,n0,s 2; told(2) 231");
        runs.run("11 numbers with noughts ahead", "text l0007,l01 2; of(0, 2) 1; count(4) 2; takeBack() 1; of(0, 2) 7; text l1099 1; of(1, 2) 99"
            + "; text r00231 1; told(2) 231");
        runs.run("11 deeds of a text can be taken back", "text l05,s,b1,w12 4; count(4) 4; takeBack() 3; takeBack() 2; takeBack() 1; takeBack() 0"
            + "; told(1) 3; told(2) 321");
        runs.run("11 clauses see those ahead", "text n2,l25,n3,l25 3; of(2, 2) 5; text u,u 1; of(2, 2) 1");
        runs.run("11 letters 5 and long codes", "text n5,r53241 2; told(2) 53241; text r5324 0; text r12345 1");
    }
}
