/** The boundary cases of LETTERS and WORDS: part 1 of the terms, promises 12 to 20. */
public final class EdgeWords {
    private static final int[] NO_WORDS = {-1, 6, Edge.LOW, Edge.HIGH};

    public static void main(String[] args) {
        letters();
        pairs();
        pairsWithinPairs();
        inverses();
        inverseNumbers();
        noneAtFirst();
        lengths();
        letterPlaces();
        addsOne();
        addsToSixty();
        timesNumbers();
        timesSixty();
        timesOntoItself();
        powers();
        powersOfSixty();
        powerNumbers();
        rings();
        ringsOfSixty();
        turns();
        turnsReduced();
        turnNumbers();
        turnOfFewer();
        sums();
        sumNumbers();
        Edge.end();
    }

    private static PieceWords some() {
        PieceWords x = Edge.make(Edge.TORUS, "abc;d;a9a9a9a9a9a9a6;B;");
        x.chooser(3);
        return x;
    }

    private static void dueWord(PieceWords x, int w, String want) {
        Edge.dueText("WORD " + w, Edge.word(x, w), want);
    }

    private static void letters() {
        Edge.sentence("terms 1", "LETTERS are 0 .. 3 (told a b c d) and their OPPOSITES 4 .. 7 (A B C D: 4 more).");
        PieceWords x = Edge.make("", "abcdABCD;");
        for (int l = 0; l < 8; l++) {
            Edge.due("letter(0, " + l + ")", x.letter(0, l), l);
        }
        for (int l = 0; l < 4; l++) {
            Edge.due("the LETTER " + l, x.adds(1, l), 1);
            Edge.due("its OPPOSITE", x.adds(1, l + 4), 0);
            Edge.due("the OPPOSITE", x.adds(1, l + 4), 1);
            Edge.due("the LETTER", x.adds(1, l), 0);
        }
    }

    private static void pairs() {
        Edge.sentence("terms 1", "REDUCED: no LETTER beside its OPPOSITE");
        String all = "abcdABCD";
        for (int first = 0; first < 8; first++) {
            for (int next = 0; next < 8; next++) {
                String pair = "" + all.charAt(first) + all.charAt(next);
                boolean goes = Math.abs(first - next) == 4;
                PieceWords x = Edge.make("", pair + ";");
                dueWord(x, 0, goes ? "" : pair);
                x.adds(1, first);
                Edge.due("adds " + pair, x.adds(1, next), goes ? 0 : 2);
            }
        }
    }

    private static void pairsWithinPairs() {
        Edge.sentence("terms 1", "(where such stand, both are left out, until none do)");
        PieceWords x = Edge.make("", "abcCBA;cabBAd;aAa;aAaA;(ab)3(BA)2;dabcCBaAAD;");
        dueWord(x, 0, "");
        dueWord(x, 1, "cd");
        dueWord(x, 2, "a");
        dueWord(x, 3, "");
        dueWord(x, 4, "ab");
        dueWord(x, 5, "");
        x = Edge.make("", "(ab)9(ab)6(BA)9(BA)6;");
        Edge.due("60 LETTERS of which none stay", x.length(0), 0);
        x = Edge.make("", "(ab)9(ab)6B(AB)9(AB)5;");
        Edge.due("59 LETTERS of which one stays", x.length(0), 1);
        dueWord(x, 0, "a");
    }

    private static void inverses() {
        Edge.sentence("terms 1", "Its INVERSE: the OPPOSITES from behind.");
        PieceWords x = Edge.make("", "abCd;a;D;(a9b6)4;");
        Edge.due("of 4", x.inverse(0, 5), 4);
        dueWord(x, 5, "DcBA");
        dueWord(x, 0, "abCd");
        Edge.due("of 1", x.inverse(1, 5), 1);
        dueWord(x, 5, "A");
        Edge.due("of an OPPOSITE", x.inverse(2, 5), 1);
        dueWord(x, 5, "d");
        Edge.due("of none", x.inverse(4, 5), 0);
        dueWord(x, 5, "");
        Edge.due("of 60", x.inverse(3, 5), 60);
        dueWord(x, 5, "BBBBBBAAAAAAAAA".repeat(4));
    }

    private static void inverseNumbers() {
        Edge.sentence("promise 16", "WORD to becomes the INVERSE of a: how many. BAD.");
        PieceWords x = Edge.make("", "abc;d;d;d;d;ab;");
        Edge.due("onto itself", x.inverse(0, 0), 3);
        dueWord(x, 0, "CBA");
        Edge.due("the last onto the first", x.inverse(5, 0), 2);
        dueWord(x, 0, "BA");
        Edge.due("the first onto the last", x.inverse(0, 5), 2);
        dueWord(x, 5, "ab");
        for (int w : NO_WORDS) {
            Edge.refused(EdgeWords::some, "inverse(" + w + ", 0)", y -> y.inverse(w, 0), Edge.BAD);
            Edge.refused(EdgeWords::some, "inverse(0, " + w + ")", y -> y.inverse(0, w), Edge.BAD);
        }
    }

    private static void noneAtFirst() {
        Edge.sentence("terms 1", "WORDS 0 .. 5 have 60 LETTERS at most, none at first.");
        PieceWords x = new PieceWords();
        for (int w = 0; w < 6; w++) {
            Edge.due("length(" + w + ")", x.length(w), 0);
            Edge.due("letter(" + w + ", 0)", x.letter(w, 0), Edge.NONE);
        }
        for (int w = 0; w < 6; w++) {
            Edge.due("words(" + w + ")", Edge.words(x, w, Edge.SIXTY), 1);
        }
        Edge.due("told(7)", x.told(7), 360);
        for (int w = 0; w < 6; w++) {
            Edge.due("adds(" + w + ", 0)", x.adds(w, 0), Edge.FULL);
        }
        Edge.due("told(7)", x.told(7), 360);
    }

    private static void lengths() {
        Edge.sentence("promise 12", "How many LETTERS. BAD.");
        PieceWords x = Edge.make("", "a;aA;" + Edge.SIXTY + "b2;c3;d4;");
        int[] many = {1, 0, 60, 2, 3, 4};
        for (int w = 0; w < 6; w++) {
            Edge.due("length(" + w + ")", x.length(w), many[w]);
        }
        for (int w : NO_WORDS) {
            Edge.refused(EdgeWords::some, "length(" + w + ")", y -> y.length(w), Edge.BAD);
        }
    }

    private static void letterPlaces() {
        Edge.sentence("promise 13", "LETTER k; NONE: it has fewer. BAD: k below 0, too.");
        PieceWords x = Edge.make("", "Ab;a9a9a9a9a9a9a5D;");
        Edge.due("the first", x.letter(0, 0), 4);
        Edge.due("the last", x.letter(0, 1), 1);
        Edge.due("behind the last", x.letter(0, 2), Edge.NONE);
        Edge.due("the 60th", x.letter(1, 59), 7);
        Edge.due("the 61st", x.letter(1, 60), Edge.NONE);
        Edge.due("far behind", x.letter(1, Edge.HIGH), Edge.NONE);
        Edge.due("of none", x.letter(5, 0), Edge.NONE);
        Edge.dueRefusals(x, 0, 0, 0);
        x.adds(0, 5);
        Edge.due("what has gone", x.letter(0, 1), Edge.NONE);
        x.times(0, 5, 1);
        for (int k = x.length(1); k < 61; k++) {
            Edge.due("of 60 that have gone, the " + k, x.letter(1, k), Edge.NONE);
        }
        for (int k : new int[] {-1, -2, Edge.LOW}) {
            Edge.refused(EdgeWords::some, "letter(0, " + k + ")", y -> y.letter(0, k), Edge.BAD);
            Edge.refused(EdgeWords::some, "letter(5, " + k + ")", y -> y.letter(5, k), Edge.BAD);
        }
        for (int w : NO_WORDS) {
            Edge.refused(EdgeWords::some, "letter(" + w + ", 0)", y -> y.letter(w, 0), Edge.BAD);
            Edge.refused(EdgeWords::some, "letter(" + w + ", 60)", y -> y.letter(w, 60), Edge.BAD);
        }
    }

    private static void addsOne() {
        Edge.sentence("promise 14", "WORD w gets a LETTER (0 .. 7) behind it: how many it has (fewer, if that is REDUCED). BAD");
        PieceWords x = new PieceWords();
        Edge.due("adds(0, 0)", x.adds(0, 0), 1);
        Edge.due("adds(0, 7)", x.adds(0, 7), 2);
        Edge.due("fewer", x.adds(0, 3), 1);
        Edge.due("none", x.adds(0, 4), 0);
        Edge.due("adds(5, 7)", x.adds(5, 7), 1);
        Edge.due("the others have none", x.told(7), 1);
        for (int l : new int[] {-1, 8, Edge.LOW, Edge.HIGH}) {
            Edge.refused(EdgeWords::some, "adds(0, " + l + ")", y -> y.adds(0, l), Edge.BAD);
        }
        for (int w : NO_WORDS) {
            Edge.refused(EdgeWords::some, "adds(" + w + ", 0)", y -> y.adds(w, 0), Edge.BAD);
        }
    }

    private static void addsToSixty() {
        Edge.sentence("promise 14", "FULL");
        PieceWords x = Edge.make("", "a9a9a9a9a9a9a5;");
        Edge.due("the 60th", x.adds(0, 1), 60);
        for (int l = 0; l < 8; l++) {
            if (l != 5) {
                Edge.due("the 61st, " + l, x.adds(0, l), Edge.FULL);
            }
        }
        Edge.dueRefusals(x, 0, 0, 7);
        Edge.due("one that goes with the 60th", x.adds(0, 5), 59);
        Edge.due("the 60th again", x.adds(0, 2), 60);
        dueWord(x, 0, "a".repeat(59) + "c");
        Edge.refused(EdgeWords::some, "adds(2, 1)", y -> y.adds(2, 1), Edge.FULL);
    }

    private static void timesNumbers() {
        Edge.sentence("promise 15", "WORD to becomes a behind which b stands: how many LETTERS. BAD");
        PieceWords x = Edge.make("", "abc;CBd;C;");
        Edge.due("none and none", x.times(4, 4, 5), 0);
        Edge.due("one and none", x.times(0, 4, 5), 3);
        dueWord(x, 5, "abc");
        Edge.due("none and one", x.times(4, 1, 5), 3);
        dueWord(x, 5, "CBd");
        Edge.due("two of each go", x.times(0, 1, 5), 2);
        dueWord(x, 5, "ad");
        Edge.due("nothing goes", x.times(1, 0, 5), 6);
        dueWord(x, 5, "CBdabc");
        Edge.due("all of b goes", x.times(0, 2, 5), 2);
        dueWord(x, 5, "ab");
        x.inverse(0, 3);
        Edge.due("all goes", x.times(0, 3, 5), 0);
        for (int w : NO_WORDS) {
            Edge.refused(EdgeWords::some, "times(" + w + ", 0, 0)", y -> y.times(w, 0, 0), Edge.BAD);
            Edge.refused(EdgeWords::some, "times(0, " + w + ", 0)", y -> y.times(0, w, 0), Edge.BAD);
            Edge.refused(EdgeWords::some, "times(0, 0, " + w + ")", y -> y.times(0, 0, w), Edge.BAD);
        }
    }

    private static void timesSixty() {
        Edge.sentence("promise 15", "FULL (a WORD would have more than 60 LETTERS, being REDUCED)");
        PieceWords x = Edge.make("", "a9a9a9a9a9a9a5;b;b2;" + Edge.SIXTY);
        Edge.due("59 and 1", x.times(0, 1, 4), 60);
        Edge.due("59 and 2", x.times(0, 2, 5), Edge.FULL);
        Edge.due("60 and 60", x.times(3, 3, 5), Edge.FULL);
        Edge.due("WORD 5 stays", x.length(5), 0);
        x.inverse(3, 5);
        Edge.due("60 and 60 that all go", x.times(3, 5, 1), 0);
        Edge.due("60 and 60 onto the first", x.times(3, 5, 3), 0);
        Edge.refused(EdgeWords::some, "times(2, 1, 0)", y -> y.times(2, 1, 0), Edge.FULL);
        Edge.refused(EdgeWords::some, "times(2, 1, 2)", y -> y.times(2, 1, 2), Edge.FULL);
        Edge.refused(EdgeWords::some, "times(1, 2, 1)", y -> y.times(1, 2, 1), Edge.FULL);
        x = Edge.make("", "a9a9a9a3b;Bc9c9c9c3;Bc9c9c9c4;");
        Edge.due("31 and 31 of which 2 go", x.times(0, 1, 4), 60);
        Edge.due("31 and 32 of which 2 go", x.times(0, 2, 5), Edge.FULL);
    }

    private static void timesOntoItself() {
        Edge.sentence("promise 15", "WORD to becomes a behind which b stands");
        PieceWords x = Edge.make("", "ab;c;");
        Edge.due("onto a", x.times(0, 1, 0), 3);
        dueWord(x, 0, "abc");
        dueWord(x, 1, "c");
        Edge.due("onto b", x.times(0, 1, 1), 4);
        dueWord(x, 1, "abcc");
        Edge.due("a twice", x.times(0, 0, 0), 6);
        dueWord(x, 0, "abcabc");
    }

    private static void powers() {
        Edge.sentence("promise 17", "WORD to becomes a n times (-9 .. 9; below 0 the INVERSE): how many.");
        PieceWords x = Edge.make("", "abA;bc;");
        Edge.due("9 times", x.power(0, 9, 5), 11);
        dueWord(x, 5, "abbbbbbbbbA");
        Edge.due("-9 times", x.power(0, -9, 5), 11);
        dueWord(x, 5, "aBBBBBBBBBA");
        Edge.due("once", x.power(1, 1, 5), 2);
        dueWord(x, 5, "bc");
        Edge.due("-1 times", x.power(1, -1, 5), 2);
        dueWord(x, 5, "CB");
        Edge.due("0 times", x.power(1, 0, 5), 0);
        dueWord(x, 5, "");
        Edge.due("none 9 times", x.power(5, 9, 4), 0);
        Edge.due("none -9 times", x.power(5, -9, 4), 0);
        Edge.due("none 0 times", x.power(5, 0, 4), 0);
        Edge.due("onto itself", x.power(1, -2, 1), 4);
        dueWord(x, 1, "CBCB");
        Edge.due("0 times onto itself", x.power(1, 0, 1), 0);
    }

    private static void powersOfSixty() {
        Edge.sentence("promise 17", "FULL (a WORD would have more than 60 LETTERS, being REDUCED)");
        PieceWords x = Edge.make("", Edge.SIXTY + "a7;a9b;");
        Edge.due("60 once", x.power(0, 1, 5), 60);
        Edge.due("60 -1 times", x.power(0, -1, 5), 60);
        Edge.due("60 twice", x.power(0, 2, 5), Edge.FULL);
        Edge.due("60 9 times", x.power(0, 9, 5), Edge.FULL);
        Edge.due("60 -9 times", x.power(0, -9, 5), Edge.FULL);
        Edge.due("60 0 times", x.power(0, 0, 4), 0);
        Edge.due("7 9 times", x.power(1, 9, 4), Edge.FULL);
        Edge.due("7 8 times", x.power(1, 8, 4), 56);
        Edge.due("10 6 times", x.power(2, 6, 4), 60);
        Edge.due("10 -6 times", x.power(2, -6, 4), 60);
        Edge.due("10 7 times", x.power(2, 7, 4), Edge.FULL);
        Edge.dueRefusals(x, 0, 0, 5);
        x = Edge.make("", "b9b9b8aB9B9B8;b9b9b3a2B9B9B3;");
        Edge.due("52 ends and 8", x.power(0, 8, 5), 60);
        Edge.due("52 ends and 9", x.power(0, 9, 5), Edge.FULL);
        Edge.due("52 ends and -9", x.power(0, -9, 5), Edge.FULL);
        Edge.due("42 ends and 18", x.power(1, 9, 5), 60);
        dueWord(x, 5, "b".repeat(21) + "a".repeat(18) + "B".repeat(21));
        // none of their LETTERS go, though those that were left out above 60 would let others go
        x = Edge.make("", "(ba9a2BA7)3;(a9a4BA9A3B)2;(a9a5cA9A3C)2;");
        for (int w = 0; w < 3; w++) {
            Edge.due("WORD " + w + " twice", x.power(w, 2, 5), Edge.FULL);
            Edge.due("WORD " + w + " behind itself", x.times(w, w, 5), Edge.FULL);
        }
        Edge.refused(EdgeWords::some, "power(2, 2, 0)", y -> y.power(2, 2, 0), Edge.FULL);
        Edge.refused(EdgeWords::some, "power(2, -2, 2)", y -> y.power(2, -2, 2), Edge.FULL);
    }

    private static void powerNumbers() {
        Edge.sentence("promise 17", "(-9 .. 9) .. BAD");
        for (int n : new int[] {-10, 10, Edge.LOW, Edge.HIGH}) {
            Edge.refused(EdgeWords::some, "power(0, " + n + ", 0)", y -> y.power(0, n, 0), Edge.BAD);
            Edge.refused(EdgeWords::some, "power(5, " + n + ", 0)", y -> y.power(5, n, 0), Edge.BAD);
        }
        for (int w : NO_WORDS) {
            Edge.refused(EdgeWords::some, "power(" + w + ", 0, 0)", y -> y.power(w, 0, 0), Edge.BAD);
            Edge.refused(EdgeWords::some, "power(0, 0, " + w + ")", y -> y.power(0, 0, w), Edge.BAD);
        }
    }

    private static void rings() {
        Edge.sentence("promise 18", "WORD to becomes a with its ends left out as long as they are OPPOSITES: how many. BAD.");
        PieceWords x = Edge.make("", "abcdBA;aba;aBA;ab;A;");
        Edge.due("two ends", x.ring(0, 5), 2);
        dueWord(x, 5, "cd");
        dueWord(x, 0, "abcdBA");
        Edge.due("like ends", x.ring(1, 5), 3);
        dueWord(x, 5, "aba");
        Edge.due("all but one", x.ring(2, 5), 1);
        dueWord(x, 5, "B");
        Edge.due("two that are no OPPOSITES", x.ring(3, 5), 2);
        dueWord(x, 5, "ab");
        Edge.due("one", x.ring(4, 5), 1);
        dueWord(x, 5, "A");
        Edge.due("onto itself", x.ring(0, 0), 2);
        dueWord(x, 0, "cd");
        Edge.words(x, 0, "aA;");
        Edge.due("none", x.ring(0, 5), 0);
        dueWord(x, 5, "");
        for (int w : NO_WORDS) {
            Edge.refused(EdgeWords::some, "ring(" + w + ", 0)", y -> y.ring(w, 0), Edge.BAD);
            Edge.refused(EdgeWords::some, "ring(0, " + w + ")", y -> y.ring(0, w), Edge.BAD);
        }
    }

    private static void ringsOfSixty() {
        Edge.sentence("promise 18", "its ends left out as long as they are OPPOSITES");
        PieceWords x = Edge.make("", "b9b9b9b2a2B9B9B9B2;b9b9b9b2aB9B9B9B2;" + Edge.SIXTY + "b9b9b9b2aB9B9B9B3;");
        Edge.due("58 ends of 60", x.ring(0, 5), 2);
        dueWord(x, 5, "aa");
        Edge.due("58 ends of 59", x.ring(1, 5), 1);
        dueWord(x, 5, "a");
        Edge.due("no ends of 60", x.ring(2, 5), 60);
        dueWord(x, 5, "aaaaaaaaabbbbbb".repeat(4));
        Edge.due("58 ends of 60, one that stays", x.ring(3, 5), 2);
        dueWord(x, 5, "aB");
    }

    private static void turns() {
        Edge.sentence("promise 19", "WORD to becomes a that begins at its LETTER n (0 .. 59) and goes round");
        PieceWords x = Edge.make("", "abcd;D;a9a9a9a9a9a9a5b;");
        String[] all = {"abcd", "bcda", "cdab", "dabc"};
        for (int n = 0; n < 4; n++) {
            Edge.due("turn(0, " + n + ", 5)", x.turn(0, n, 5), 4);
            dueWord(x, 5, all[n]);
        }
        Edge.due("of one", x.turn(1, 0, 5), 1);
        dueWord(x, 5, "D");
        Edge.due("of 60 at the last", x.turn(2, 59, 5), 60);
        dueWord(x, 5, "b" + "a".repeat(59));
        Edge.due("of 60 at the first", x.turn(2, 0, 5), 60);
        dueWord(x, 5, "a".repeat(59) + "b");
        Edge.due("onto itself", x.turn(0, 3, 0), 4);
        dueWord(x, 0, "dabc");
    }

    private static void turnsReduced() {
        Edge.sentence("promise 19", "REDUCED: how many");
        PieceWords x = Edge.make("", "abcBA;abA;b9b9b9b2a2B9B9B9B2;");
        int[] many = {5, 3, 1, 1, 3};
        for (int n = 0; n < 5; n++) {
            Edge.due("turn(0, " + n + ", 5)", x.turn(0, n, 5), many[n]);
        }
        dueWord(x, 5, "bcB");
        Edge.due("turn(1, 1, 5)", x.turn(1, 1, 5), 1);
        dueWord(x, 5, "b");
        Edge.due("58 of 60 go", x.turn(2, 30, 5), 2);
        dueWord(x, 5, "aa");
        Edge.due("58 of 60 go", x.turn(2, 29, 5), 2);
        Edge.due("56 of 60 go", x.turn(2, 28, 5), 4);
        dueWord(x, 5, "baaB");
        Edge.due("none go", x.turn(2, 0, 5), 60);
    }

    private static void turnNumbers() {
        Edge.sentence("promise 19", "BAD");
        for (int n : new int[] {-1, 60, Edge.LOW, Edge.HIGH}) {
            Edge.refused(EdgeWords::some, "turn(2, " + n + ", 0)", y -> y.turn(2, n, 0), Edge.BAD);
            Edge.refused(EdgeWords::some, "turn(5, " + n + ", 0)", y -> y.turn(5, n, 0), Edge.BAD);
        }
        for (int w : NO_WORDS) {
            Edge.refused(EdgeWords::some, "turn(" + w + ", 0, 0)", y -> y.turn(w, 0, 0), Edge.BAD);
            Edge.refused(EdgeWords::some, "turn(0, 0, " + w + ")", y -> y.turn(0, 0, w), Edge.BAD);
            Edge.refused(EdgeWords::some, "turn(5, 0, " + w + ")", y -> y.turn(5, 0, w), Edge.BAD);
        }
    }

    private static void turnOfFewer() {
        Edge.sentence("promise 19", "NO: it has n or fewer LETTERS.");
        Edge.refused(EdgeWords::some, "turn(0, 3, 1)", y -> y.turn(0, 3, 1), Edge.NO);
        Edge.refused(EdgeWords::some, "turn(0, 4, 0)", y -> y.turn(0, 4, 0), Edge.NO);
        Edge.refused(EdgeWords::some, "turn(0, 59, 1)", y -> y.turn(0, 59, 1), Edge.NO);
        Edge.refused(EdgeWords::some, "turn(1, 1, 0)", y -> y.turn(1, 1, 0), Edge.NO);
        Edge.refused(EdgeWords::some, "turn(5, 0, 0)", y -> y.turn(5, 0, 0), Edge.NO);
        PieceWords x = Edge.make("", "a9a9a9a9a9a9a5;");
        Edge.due("59 of 59", x.turn(0, 59, 0), Edge.NO);
        Edge.due("58 of 59", x.turn(0, 58, 0), 59);
    }

    private static void sums() {
        Edge.sentence("promise 20", "How often one of a .. d (l 0 .. 3) is in a WORD, OPPOSITES less.");
        PieceWords x = Edge.make("", "a9a9a9a9a9a9a6;D9D9D9D9D9D9D6;abAB;C2;C3;C4;");
        int[][] all = {{60, 0, 0, 0}, {0, 0, 0, -60}, {0, 0, 0, 0}, {0, 0, -2, 0}, {0, 0, -3, 0}, {0, 0, -4, 0}};
        for (int w = 0; w < 6; w++) {
            for (int l = 0; l < 4; l++) {
                Edge.due("sum(" + w + ", " + l + ")", x.sum(w, l), all[w][l]);
            }
        }
        Edge.dueRefusals(x, 0, 0, 0);
        Edge.words(x, 0, "aA;c2aCbC2a;");
        Edge.due("of none", x.sum(0, 0), 0);
        Edge.due("some of both", x.sum(1, 2), -1);
        Edge.due("a twice", x.sum(1, 0), 2);
    }

    private static void sumNumbers() {
        Edge.sentence("promise 20", "BAD.");
        for (int l : new int[] {-1, 4, 7, Edge.LOW, Edge.HIGH}) {
            Edge.refused(EdgeWords::some, "sum(0, " + l + ")", y -> y.sum(0, l), Edge.BAD);
        }
        for (int w : NO_WORDS) {
            Edge.refused(EdgeWords::some, "sum(" + w + ", 0)", y -> y.sum(w, 0), Edge.BAD);
        }
    }
}
