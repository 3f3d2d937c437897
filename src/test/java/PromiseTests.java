/** For each promise of the document ordinary inputs, the edges it names, and wrong inputs. */
public final class PromiseTests {
    private static final int LOW = Integer.MIN_VALUE, HIGH = Integer.MAX_VALUE;
    private static int wrong = 0;
    private static String promise = "";

    public static void main(String[] args) {
        newObject();
        type();
        clear();
        relators();
        relatorsThatAreRefused();
        faultsOfBytes();
        words();
        chooser();
        relator();
        member();
        good();
        alike();
        rank();
        lengthAndLetter();
        adds();
        times();
        inverse();
        power();
        ring();
        turn();
        sum();
        cuts();
        cut();
        shorten();
        trail();
        nothing();
        same();
        order();
        turned();
        nothings();
        draw();
        loops();
        told();
        digest();
        System.out.println(wrong == 0 ? "all promises are kept" : wrong + " answers are not as due");
        if (wrong != 0) {
            System.exit(1);
        }
    }

    private static void due(String what, long got, long want) {
        if (got != want) {
            wrong++;
            System.out.println(promise + ": " + what + " answered " + got + ", due is " + want);
        }
    }

    private static PieceWords fresh(String name) {
        promise = name;
        return new PieceWords();
    }

    private static void text(PieceWords x, String text) {
        x.clear();
        for (int k = 0; k < text.length(); k++) {
            x.type(text.charAt(k));
        }
    }

    private static int relators(PieceWords x, String text) {
        text(x, text);
        return x.relators();
    }

    private static int words(PieceWords x, int w, String text) {
        text(x, text);
        return x.words(w);
    }

    /** WORD w as a text. */
    private static String show(PieceWords x, int w) {
        StringBuilder shown = new StringBuilder();
        for (int k = 0; k < x.length(w); k++) {
            shown.append("abcdABCD".charAt(x.letter(w, k)));
        }
        return shown.toString();
    }

    private static String showMember(PieceWords x, int m) {
        StringBuilder shown = new StringBuilder();
        for (int k = 0; k < x.member(m, PieceWords.NONE); k++) {
            shown.append("abcdABCD".charAt(x.member(m, k)));
        }
        return shown.toString();
    }

    private static void dueText(String what, String got, String want) {
        if (!got.equals(want)) {
            wrong++;
            System.out.println(promise + ": " + what + " is '" + got + "', due is '" + want + "'");
        }
    }

    private static void dueRefusals(PieceWords x, int bads, int noes, int fulls) {
        due("told(0)", x.told(0), bads);
        due("told(1)", x.told(1), noes);
        due("told(2)", x.told(2), fulls);
    }

    private static void newObject() {
        PieceWords x = fresh("promise 1");
        for (int what = 0; what < 8; what++) {
            due("told(" + what + ")", x.told(what), 0);
        }
        for (int w = 0; w < 6; w++) {
            due("length(" + w + ")", x.length(w), 0);
        }
        due("member(0, 0)", x.member(0, 0), -2);
        due("chooser(0)", x.chooser(0), 0);
        due("NONE", PieceWords.NONE, -1);
        due("BAD", PieceWords.BAD, -2);
        due("NO", PieceWords.NO, -3);
        due("FULL", PieceWords.FULL, -4);
    }

    private static void type() {
        PieceWords x = fresh("promise 2");
        due("type(0)", x.type(0), 1);
        due("type(127)", x.type(127), 2);
        for (int c : new int[] {-1, 128, LOW, HIGH}) {
            due("type(" + c + ")", x.type(c), -2);
        }
        for (int k = 3; k <= 100; k++) {
            due("type", x.type(' '), k);
        }
        due("the 101st", x.type('a'), -4);
        due("BAD ahead of FULL", x.type(128), -2);
        due("told(3)", x.told(3), 100);
        dueRefusals(x, 5, 0, 1);
    }

    private static void clear() {
        PieceWords x = fresh("promise 3");
        due("clear()", x.clear(), 0);
        text(x, "ab;");
        due("clear()", x.clear(), 3);
        due("clear()", x.clear(), 0);
        due("type", x.type('a'), 1);
        due("the earlier bytes are gone", x.words(0), -11);
    }

    private static void relators() {
        PieceWords x = fresh("promise 4");
        due("relators()", relators(x, "ab;cd2;(aB)2;"), 3);
        due("told(4)", x.told(4), 3);
        due("relator(1, 0)", x.relator(1, 0), 3);
        due("fewer than before", relators(x, " a ( b c ) 2"), -21);
        due("the fault left all", x.told(4), 3);
        due("ends left out", relators(x, "abcdCBA;"), 1);
        due("their number", x.told(4), 1);
        due("relator(0, 0)", x.relator(0, 0), 1);
        due("told(5)", x.told(5), 2);
        dueText("member 0", showMember(x, 0), "d");
        due("the TEXT stays", x.told(3), 8);
        due("the WORDS stay", x.told(7), 0);
        due("reduced", relators(x, "abBAcaAd;"), 1);
        dueText("member 0", showMember(x, 0), "cd");
        due("14 letters", relators(x, "a9b5;"), 1);
        due("60 letters that are 14 at last", relators(x, "b9b9b5a9a5B9B9B5;"), 1);
        due("relator(0, 0)", x.relator(0, 0), 14);
        dueRefusals(x, 0, 0, 0);
    }

    private static void relatorsThatAreRefused() {
        PieceWords x = fresh("promise 4, faults");
        relators(x, "ab;");
        long before = x.digest();
        x.clear();
        due("empty", x.relators(), -10);
        due("15 letters", relators(x, "a9b6;"), -10);
        due("61 letters that would be 1", relators(x, "b9b9b9b3aB9B9B9B3;"), -10);
        due("nothing left", relators(x, "ab; (cD)3 (dC)3;"), -14);
        due("the ends are left out of nothing", relators(x, "ab;aA;"), -13);
        due("one too many", relators(x, "a;b;c; d;"), -17);
        due("the first WORD that is wrong", relators(x, "a;a9b6;c;d;e"), -21);
        due("too long ahead of one too many", relators(x, "a;a9b6;c;d;"), -12);
        due("a long one within brackets", relators(x, "a; ((((a9)9)9)9)9;"), -13);
        x.clear();
        x.type('a');
        x.type('b');
        x.type(';');
        due("all stayed", x.digest(), before);
    }

    private static void faultsOfBytes() {
        String[] wrongTexts = {"", " ", "a", "a ", "a;b", ";", " ;", "a;;", "a 2;", "2;", "a0;", "a12;", "(;", "(a;", "a);",
            "();", "( );", "(2);", "(a)2 2;", "(a) 2;", "((((a))));(((((a)))));", "e;", "a\t;", "a;b;c", "a(b", "a(b)",
            "(a)(b)((c)((d)(a(b))))((((a(b)))));", "a;2", "E;", "@;", "a:", "((a)b))c;", "d9;D9;`", "a;)",
            "a();", "a(b)();"};
        int[] faults = {0, 1, 1, 2, 3, 0, 1, 2, 2, 0, 1, 2, 1, 2, 1, 1, 2, 1, 5, 4, 14, 0, 1, 5, 3, 4, 27, 2, 0, 0, 1, 6, 6, 2, 2, 5};
        for (int k = 0; k < wrongTexts.length; k++) {
            PieceWords x = fresh("promises 4 and 5, faults of bytes");
            due("words of '" + wrongTexts[k] + "'", words(x, 0, wrongTexts[k]), -10 - faults[k]);
            due("relators of '" + wrongTexts[k] + "'", relators(x, wrongTexts[k]), -10 - faults[k]);
            due("nothing came of them", x.told(7) + x.told(4), 0);
            dueRefusals(x, 0, 0, 0);
        }
        PieceWords x = fresh("promises 4 and 5, the order of faults");
        due("an early end", words(x, 0, "a"), -11);
        due("is not remembered", words(x, 0, ";"), -10);
        due("an early end", words(x, 0, "(a"), -12);
        due("is not remembered", words(x, 0, "2;"), -10);
        due("an early end", words(x, 0, "(a)"), -13);
        due("is not remembered", words(x, 0, ")2;"), -10);
        due("byte faults come ahead of long words", words(x, 0, "a9a9a9a9a9a9a9;b;e"), -27);
        dueRefusals(x, 0, 0, 0);
    }

    private static void words() {
        PieceWords x = fresh("promise 5");
        due("words(0)", words(x, 0, "a;bB;abc2;(ab)2c;( ( (d2)2 A)2 B )2 ; D9;"), 6);
        String[] all = {"a", "", "abcc", "ababc", "ddddAddddABddddAddddAB", "DDDDDDDDD"};
        for (int w = 0; w < 6; w++) {
            dueText("WORD " + w, show(x, w), all[w]);
        }
        due("words(4)", words(x, 4, "c;d;"), 2);
        dueText("WORD 3", show(x, 3), all[3]);
        dueText("WORD 4", show(x, 4), "c");
        dueText("WORD 5", show(x, 5), "d");
        due("ends too early ahead of one too many", words(x, 5, "c; d"), -14);
        due("one too many", words(x, 5, "c; d;"), -13);
        due("one too many at 0", words(x, 0, "a;a;a;a;a;a;a;"), -22);
        due("60 letters", words(x, 0, "(a9b6)4;"), 1);
        due("length(0)", x.length(0), 60);
        due("61 letters", words(x, 0, "b;(a9b6)4a;"), -12);
        due("61 letters that would be 59", words(x, 0, "(a9b6)4B;"), -10);
        due("60 letters that are 58", words(x, 0, "a9a9a9a9a9a9a5B;"), 1);
        due("the WORD that begins first is the fault", words(x, 4, "a;(a9)9;a;"), -12);
        due("reduced over factors", words(x, 0, "a(Ab)2B2a;"), 1);
        dueText("WORD 0", show(x, 0), "bABa");
        for (int w : new int[] {-1, 6, LOW, HIGH}) {
            due("words(" + w + ")", x.words(w), -2);
        }
        x.clear();
        due("BAD ahead of a fault", x.words(6), -2);
        dueRefusals(x, 5, 0, 0);
    }

    private static void chooser() {
        PieceWords x = fresh("promise 6");
        for (int kind = 0; kind <= 4; kind++) {
            due("chooser(" + kind + ")", x.chooser(kind), Math.max(0, kind - 1));
            due("told(6)", x.told(6), kind);
        }
        for (int kind : new int[] {-1, 5, LOW, HIGH}) {
            due("chooser(" + kind + ")", x.chooser(kind), -2);
        }
        due("chooser(0)", x.chooser(0), 4);
        dueRefusals(x, 4, 0, 0);
    }

    private static void relator() {
        PieceWords x = fresh("promise 7");
        due("none yet", x.relator(0, 0), -2);
        relators(x, "abABcdCD;acb;bac;");
        due("relator(0, 0)", x.relator(0, 0), 8);
        due("relator(1, 0)", x.relator(1, 0), 3);
        due("relator(2, 0)", x.relator(2, 0), 3);
        due("relator(0, 1)", x.relator(0, 1), 2);
        due("AB and ba", x.relator(1, 1), 2);
        due("relator(0, 2)", x.relator(0, 2), 16);
        due("relator(1, 2)", x.relator(1, 2), 6);
        due("the same as an earlier one's", x.relator(2, 2), 0);
        due("relator(2, 1)", x.relator(2, 1), 2);
        relators(x, "a;ab;");
        due("a beginning of another", x.relator(0, 1), 1);
        due("of which it is one", x.relator(1, 1), 1);
        relators(x, "a9;");
        due("powers have few MEMBERS", x.relator(0, 2), 2);
        due("and no PIECE", x.relator(0, 1), 0);
        relators(x, "(ab)3;(ba)3;");
        due("relator(0, 2)", x.relator(0, 2), 4);
        due("relator(1, 2)", x.relator(1, 2), 0);
        due("a RELATOR whose MEMBERS are all earlier", x.relator(1, 1), 0);
        relators(x, "abc;cab;ad;");
        due("earlier MEMBERS count for a later RELATOR's PIECE", x.relator(1, 1), 1);
        relators(x, "ab2ab3ab4;");
        due("PIECE within one", x.relator(0, 1), 6);
        relators(x, "ab;");
        for (int r : new int[] {-1, 1, 3, LOW, HIGH}) {
            due("relator(" + r + ", 0)", x.relator(r, 0), -2);
        }
        for (int what : new int[] {-1, 3, LOW, HIGH}) {
            due("relator(0, " + what + ")", x.relator(0, what), -2);
        }
        dueRefusals(x, 10, 0, 0);
    }

    private static void member() {
        PieceWords x = fresh("promise 8");
        relators(x, "abc;bca;cb;");
        String[] all = {"abc", "bca", "cab", "CBA", "BAC", "ACB", "cb", "bc", "BC", "CB"};
        due("told(5)", x.told(5), all.length);
        for (int m = 0; m < all.length; m++) {
            dueText("MEMBER " + m, showMember(x, m), all[m]);
        }
        due("member(0, 2)", x.member(0, 2), 2);
        due("member(0, 3)", x.member(0, 3), -1);
        due("member(6, 2)", x.member(6, 2), -1);
        due("member(6, -1)", x.member(6, -1), 2);
        due("far behind", x.member(0, HIGH), -1);
        due("member(0, -2)", x.member(0, -2), -2);
        due("member(0, LOW)", x.member(0, LOW), -2);
        for (int m : new int[] {-1, 10, 84, LOW, HIGH}) {
            due("member(" + m + ", 0)", x.member(m, 0), -2);
            due("member(" + m + ", -1)", x.member(m, -1), -2);
        }
        dueRefusals(x, 12, 0, 0);
        relators(x, "abcdabcdabcABd;bacdbacdbacBAd;cbadcbadcbaCBd;");
        due("as many as can be", x.told(5), 84);
        due("member(83, -1)", x.member(83, -1), 14);
        due("member(84, -1)", x.member(84, -1), -2);
    }

    private static void good() {
        PieceWords x = fresh("promise 9");
        due("without RELATORS", x.good(9), 1);
        relators(x, "abABcdCD;");
        due("7 times 1 below 8", x.good(7), 1);
        due("8 times 1 not below 8", x.good(8), 0);
        relators(x, "a9;abABcdCD;");
        due("each RELATOR", x.good(8), 0);
        due("good(7)", x.good(7), 1);
        relators(x, "abABcdCD;b2;");
        due("the other one", x.good(1), 1);
        due("the other one", x.good(2), 0);
        relators(x, "a;ab;");
        due("a PIECE that is whole", x.good(1), 0);
        for (int n : new int[] {0, 10, -1, LOW, HIGH}) {
            due("good(" + n + ")", x.good(n), -2);
        }
        dueRefusals(x, 5, 0, 0);
    }

    private static void alike() {
        PieceWords x = fresh("promise 10");
        due("none yet", x.alike(0, 0), -2);
        relators(x, "ab2ab3;ab;");
        due("alike(0, 0)", x.alike(0, 0), 7);
        due("abbabbb and abbbabb", x.alike(0, 3), 3);
        due("the other way", x.alike(3, 0), 3);
        due("told(5)", x.told(5), 18);
        due("the shorter one", x.alike(0, 14), 2);
        due("the shorter one", x.alike(14, 0), 2);
        due("abbabbb and bbabbba", x.alike(0, 1), 0);
        for (int m : new int[] {-1, 18, LOW, HIGH}) {
            due("alike(" + m + ", 0)", x.alike(m, 0), -2);
            due("alike(0, " + m + ")", x.alike(0, m), -2);
        }
        dueRefusals(x, 9, 0, 0);
    }

    private static void rank() {
        PieceWords x = fresh("promise 11");
        due("without RELATORS", x.rank(2), 0);
        int[] primes = {2, 3, 5, 7};
        String[] texts = {"abAB;", "a2;", "a2b3;a5;c7;", "ab;cd;abcd;", "a3b;ab3;", "ab2c3;a2b4c6;a3b6c2;", "aB;bC;cA;",
            "abcD;aBcd;ab;", "d7;c5;b3;", "b2a;b2c;b2d;", "dc;c2d;cd2;"};
        int[][] ranks = {{0, 0, 0, 0}, {0, 1, 1, 1}, {3, 2, 2, 2}, {2, 2, 2, 2}, {1, 2, 2, 2}, {2, 2, 2, 1}, {2, 2, 2, 2},
            {2, 3, 3, 3}, {3, 2, 2, 2}, {3, 3, 3, 3}, {2, 2, 2, 2}};
        for (int k = 0; k < texts.length; k++) {
            relators(x, texts[k]);
            for (int p = 0; p < 4; p++) {
                due("rank(" + primes[p] + ") of " + texts[k], x.rank(primes[p]), ranks[k][p]);
            }
        }
        for (int p : new int[] {0, 1, 4, 6, 8, 9, 11, -2, LOW, HIGH}) {
            due("rank(" + p + ")", x.rank(p), -2);
        }
        dueRefusals(x, 10, 0, 0);
    }

    private static void lengthAndLetter() {
        PieceWords x = fresh("promises 12 and 13");
        words(x, 0, "abcdABCD;a2;a;a3;a4;a5;");
        due("length(0)", x.length(0), 8);
        due("length(5)", x.length(5), 5);
        for (int k = 0; k < 8; k++) {
            due("letter(0, " + k + ")", x.letter(0, k), k);
        }
        due("letter(0, 8)", x.letter(0, 8), -1);
        due("letter(0, HIGH)", x.letter(0, HIGH), -1);
        due("letter(0, -1)", x.letter(0, -1), -2);
        due("letter(0, LOW)", x.letter(0, LOW), -2);
        for (int w : new int[] {-1, 6, LOW, HIGH}) {
            due("length(" + w + ")", x.length(w), -2);
            due("letter(" + w + ", 0)", x.letter(w, 0), -2);
        }
        dueRefusals(x, 10, 0, 0);
    }

    private static void adds() {
        PieceWords x = fresh("promise 14");
        for (int l = 0; l < 4; l++) {
            due("adds(2, " + l + ")", x.adds(2, l), l + 1);
        }
        due("reduced", x.adds(2, 7), 3);
        due("reduced", x.adds(2, 6), 2);
        dueText("WORD 2", show(x, 2), "ab");
        due("below 0", x.adds(2, -1), -2);
        due("above 7", x.adds(2, 8), -2);
        due("adds(6, 0)", x.adds(6, 0), -2);
        due("adds(-1, 0)", x.adds(-1, 0), -2);
        words(x, 0, "(a9b6)4;");
        due("61", x.adds(0, 0), -4);
        due("61, but reduced", x.adds(0, 5), 59);
        due("60 again", x.adds(0, 1), 60);
        due("length(0)", x.length(0), 60);
        due("BAD ahead of FULL", x.adds(0, 8), -2);
        dueRefusals(x, 5, 0, 1);
    }

    private static void times() {
        PieceWords x = fresh("promise 15");
        words(x, 0, "abc;CBd;a9a9a9a3;A9A9A9A2;");
        due("times(0, 1, 4)", x.times(0, 1, 4), 2);
        dueText("WORD 4", show(x, 4), "ad");
        due("times(1, 0, 4)", x.times(1, 0, 4), 6);
        dueText("WORD 4", show(x, 4), "CBdabc");
        due("30 and 30", x.times(2, 2, 4), 60);
        due("all but one goes", x.times(2, 3, 5), 1);
        due("61", x.times(4, 5, 0), -4);
        dueText("WORD 0", show(x, 0), "abc");
        due("60 and 29 that reduce", x.times(4, 3, 4), 31);
        due("onto the first", x.times(0, 1, 0), 2);
        dueText("WORD 0", show(x, 0), "ad");
        due("onto both", x.times(0, 0, 0), 4);
        dueText("WORD 0", show(x, 0), "adad");
        due("onto the second", x.times(1, 0, 0), 7);
        dueText("WORD 0", show(x, 0), "CBdadad");
        for (int w : new int[] {-1, 6}) {
            due("a", x.times(w, 0, 0), -2);
            due("b", x.times(0, w, 0), -2);
            due("to", x.times(0, 0, w), -2);
        }
        dueRefusals(x, 6, 0, 1);
    }

    private static void inverse() {
        PieceWords x = fresh("promise 16");
        words(x, 0, "abCd;");
        due("inverse(0, 1)", x.inverse(0, 1), 4);
        dueText("WORD 1", show(x, 1), "DcBA");
        due("onto itself", x.inverse(0, 0), 4);
        dueText("WORD 0", show(x, 0), "DcBA");
        due("of none", x.inverse(5, 0), 0);
        for (int w : new int[] {-1, 6}) {
            due("a", x.inverse(w, 0), -2);
            due("to", x.inverse(0, w), -2);
        }
        dueRefusals(x, 4, 0, 0);
    }

    private static void power() {
        PieceWords x = fresh("promise 17");
        words(x, 0, "bcaB;a9a9a9a9a9;a7;(abc)2a;");
        due("power(0, 3, 4)", x.power(0, 3, 4), 8);
        dueText("WORD 4", show(x, 4), "bcacacaB");
        due("power(0, -2, 4)", x.power(0, -2, 4), 6);
        dueText("WORD 4", show(x, 4), "bACACB");
        due("power(0, 1, 4)", x.power(0, 1, 4), 4);
        due("power(0, -1, 0)", x.power(0, -1, 0), 4);
        dueText("WORD 0", show(x, 0), "bACB");
        due("power(0, 0, 0)", x.power(0, 0, 0), 0);
        due("45 once", x.power(1, 1, 5), 45);
        due("45 twice", x.power(1, 2, 5), -4);
        due("7 nine times", x.power(2, 9, 5), -4);
        due("7 eight times", x.power(2, -8, 5), 56);
        due("7 nine times, below 0", x.power(2, -9, 5), -4);
        due("length(5)", x.length(5), 56);
        due("none nine times", x.power(0, 9, 0), 0);
        for (int n : new int[] {10, -10, LOW, HIGH}) {
            due("power(2, " + n + ", 0)", x.power(2, n, 0), -2);
        }
        due("a", x.power(6, 0, 0), -2);
        due("to", x.power(0, 0, 6), -2);
        due("a", x.power(-1, 0, 0), -2);
        due("to", x.power(0, 0, -1), -2);
        dueRefusals(x, 8, 0, 3);
        words(x, 0, "b9b9b9aB9B9B9;");
        due("long, but most of it goes", x.power(0, 6, 1), 60);
        due("61", x.power(0, 7, 1), -4);
    }

    private static void ring() {
        PieceWords x = fresh("promise 18");
        words(x, 0, "abcdBA;aba;aBA;ab;");
        due("ring(0, 5)", x.ring(0, 5), 2);
        dueText("WORD 5", show(x, 5), "cd");
        dueText("WORD 0", show(x, 0), "abcdBA");
        due("ring(1, 1)", x.ring(1, 1), 3);
        due("ring(2, 2)", x.ring(2, 2), 1);
        dueText("WORD 2", show(x, 2), "B");
        due("ring(3, 4)", x.ring(3, 4), 2);
        x.power(0, 0, 0);
        due("of none", x.ring(0, 4), 0);
        for (int w : new int[] {-1, 6}) {
            due("a", x.ring(w, 0), -2);
            due("to", x.ring(0, w), -2);
        }
        dueRefusals(x, 4, 0, 0);
    }

    private static void turn() {
        PieceWords x = fresh("promise 19");
        words(x, 0, "abcA;abcd;(a9b6)4;");
        due("turn(1, 1, 5)", x.turn(1, 1, 5), 4);
        dueText("WORD 5", show(x, 5), "bcda");
        due("turn(1, 0, 5)", x.turn(1, 0, 5), 4);
        dueText("WORD 5", show(x, 5), "abcd");
        due("turn(1, 3, 1)", x.turn(1, 3, 1), 4);
        dueText("WORD 1", show(x, 1), "dabc");
        due("reduced", x.turn(0, 1, 5), 2);
        dueText("WORD 5", show(x, 5), "bc");
        due("reduced", x.turn(0, 3, 5), 2);
        due("not a ring by itself", x.turn(0, 0, 5), 4);
        due("turn(0, 4, 5)", x.turn(0, 4, 5), -3);
        due("turn(4, 0, 5)", x.turn(4, 0, 5), -3);
        due("turn(2, 59, 2)", x.turn(2, 59, 2), 60);
        due("letter(2, 0)", x.letter(2, 0), 1);
        due("letter(2, 1)", x.letter(2, 1), 0);
        for (int n : new int[] {-1, 60, LOW, HIGH}) {
            due("turn(2, " + n + ", 0)", x.turn(2, n, 0), -2);
        }
        due("a", x.turn(6, 0, 0), -2);
        due("to, ahead of NO", x.turn(0, 59, 6), -2);
        due("a", x.turn(-1, 0, 0), -2);
        due("to", x.turn(0, 0, -1), -2);
        dueRefusals(x, 8, 2, 0);
    }

    private static void sum() {
        PieceWords x = fresh("promise 20");
        words(x, 0, "abACb2D3bA;");
        int[] sums = {-1, 4, -1, -3};
        for (int l = 0; l < 4; l++) {
            due("sum(0, " + l + ")", x.sum(0, l), sums[l]);
            due("sum(1, " + l + ")", x.sum(1, l), 0);
        }
        words(x, 0, "A2;");
        due("a sum like BAD", x.sum(0, 0), -2);
        dueRefusals(x, 0, 0, 0);
        for (int l : new int[] {-1, 4, LOW, HIGH}) {
            due("sum(0, " + l + ")", x.sum(0, l), -2);
        }
        due("sum(6, 0)", x.sum(6, 0), -2);
        due("sum(-1, 0)", x.sum(-1, 0), -2);
        dueRefusals(x, 6, 0, 0);
    }

    private static void cuts() {
        PieceWords x = fresh("promise 21");
        words(x, 0, "abcd;abAcd;abc;ab;dabcdabc;");
        due("without RELATORS", x.cuts(0), 0);
        relators(x, "abcd;");
        due("abcd and bcd", x.cuts(0), 2);
        due("just half", x.cuts(1), 0);
        due("abc", x.cuts(2), 1);
        due("ab", x.cuts(3), 0);
        due("places 0 .. 4, then abc", x.cuts(4), 6);
        due("no LETTERS", x.cuts(5), 0);
        relators(x, "ab2;ab3;b3;");
        words(x, 0, "ab4;");
        // abb abbb; bba bbba bbb; bba bbba bbb; bba bbb
        due("more MEMBERS at one place", x.cuts(0), 10);
        due("cuts(6)", x.cuts(6), -2);
        due("cuts(-1)", x.cuts(-1), -2);
        dueRefusals(x, 2, 0, 0);
    }

    /** One cut of a new WORD by a chooser of that kind, as a text. */
    private static String afterCut(String relators, String word, int kind) {
        PieceWords x = new PieceWords();
        relators(x, relators);
        words(x, 0, word);
        x.chooser(kind);
        due("cut(0) by " + kind, x.cut(0), x.length(0));
        return show(x, 0);
    }

    private static void cut() {
        PieceWords x = fresh("promise 22");
        words(x, 0, "dabcd;abcA;");
        due("without RELATORS", x.cut(0), -3);
        relators(x, "abcdab;");
        due("half is not enough", x.cut(1), -3);
        due("abcd becomes BA", x.cut(0), 3);
        dueText("WORD 0", show(x, 0), "dBA");
        relators(x, "bcA;");
        due("bc becomes a, that goes", x.cut(1), 1);
        dueText("WORD 1", show(x, 1), "a");
        due("none is left", x.cut(1), -3);
        due("cut(6)", x.cut(6), -2);
        due("cut(-1)", x.cut(-1), -2);
        dueRefusals(x, 2, 3, 0);
        words(x, 0, "dbcAD;");
        due("all goes", x.cut(0), 0);
        cutsByChoosers();
    }

    private static void cutsByChoosers() {
        promise = "promise 22, choosers";
        dueText("FIRST", afterCut("abcd;ab;", "abcdA;", 0), "A");
        dueText("FIRST takes the longer at one place", afterCut("ab;abcdc;", "abcd;", 0), "C");
        dueText("FIRST takes no later place", afterCut("ab;cdcdc;", "abdcdcdc;", 0), "dcdcdc");
        dueText("LAST", afterCut("ab;", "abcabdab;", 1), "abcabd");
        dueText("LAST takes the longer at one place", afterCut("cd;cdab;b3;", "acda;", 1), "aB");
        dueText("GREEDY", afterCut("ab;cdcd;", "abDcdcdab;", 2), "abDab");
        dueText("GREEDY takes the first of equals", afterCut("ab;", "abcab;", 2), "cab");
        dueText("SHY takes the first of equals", afterCut("ab;", "abcab;", 3), "cab");
        dueText("LONG", afterCut("ab;cdcdcDa;", "abDcdcdc;", 4), "abDAd");
        dueText("LONG takes the first of equals", afterCut("ab;", "abcab;", 4), "cab");
        for (int kind = 0; kind < 5; kind++) {
            dueText("the first of equal MEMBERS by " + kind, afterCut("abc;abd;", "ab;", kind), "C");
        }
        // cdcd at 0 saves 4 (dcd at 1: 2), ab at 5 saves 1
        String[] one = {"babd", "cdcdbCd", "babd", "cdcdbCd", "babd"};
        // ab at 0 saves 2, cdcd at 3 is longer, but saves 1
        String[] other = {"Dcdcd", "abDAdC", "Dcdcd", "abDAdC", "abDAdC"};
        for (int kind = 0; kind < 5; kind++) {
            dueText("kind " + kind, afterCut("cdcd;abc;", "cdcdbabd;", kind), one[kind]);
            dueText("kind " + kind, afterCut("ab;cdcdcDa;", "abDcdcd;", kind), other[kind]);
        }
    }

    private static void shorten() {
        PieceWords x = fresh("promise 23");
        words(x, 0, "abcabdab;dabcabABCD;c;a9a9a9a9a9;");
        due("without RELATORS", x.shorten(0), 0);
        relators(x, "ab;");
        due("shorten(0)", x.shorten(0), 3);
        dueText("WORD 0", show(x, 0), "cd");
        due("again", x.shorten(0), 0);
        due("shorten(2)", x.shorten(2), 0);
        due("shorten(5)", x.shorten(5), 0);
        relators(x, "a;");
        due("45 LETTERS one by one", x.shorten(3), 45);
        due("length(3)", x.length(3), 0);
        words(x, 0, "(a9b6)4;");
        relators(x, "a;b;");
        due("60 CUTS", x.shorten(0), 60);
        due("length(0)", x.length(0), 0);
        due("shorten(6)", x.shorten(6), -2);
        due("shorten(-1)", x.shorten(-1), -2);
        dueRefusals(x, 2, 0, 0);
    }

    private static void trail() {
        PieceWords x = fresh("promise 24");
        relators(x, "abABcdCD;");
        words(x, 0, "dabABcdCDaBabABcD;");
        long before = x.digest();
        int[][] first = {{1, 0, 8, 9}, {3, 0, 5, 7}};
        dueTrail(x, first);
        x.chooser(1);
        due("place of the LAST", x.trail(0, 0, 0), 11);
        due("NONE for a k too great", x.trail(0, 60, 0), -1);
        due("NONE for HIGH", x.trail(0, HIGH, 3), -1);
        x.chooser(0);
        due("nothing was changed", x.digest(), before);
        due("without CUTS", x.trail(1, 0, 0), -1);
        due("k below 0", x.trail(0, -1, 0), -2);
        due("k LOW", x.trail(0, LOW, 0), -2);
        for (int what : new int[] {-1, 4, LOW, HIGH}) {
            due("trail(0, 0, " + what + ")", x.trail(0, 0, what), -2);
        }
        due("trail(6, 0, 0)", x.trail(6, 0, 0), -2);
        due("trail(-1, 0, 0)", x.trail(-1, 0, 0), -2);
        dueRefusals(x, 8, 0, 0);
        words(x, 0, "(a9b6)4;");
        relators(x, "a;b;");
        due("the 60th CUT", x.trail(0, 59, 3), 0);
        due("the 60th CUT", x.trail(0, 59, 2), 1);
        due("the 61st CUT", x.trail(0, 60, 3), -1);
    }

    private static void dueTrail(PieceWords x, int[][] trail) {
        for (int k = 0; k < trail.length; k++) {
            for (int what = 0; what < 4; what++) {
                due("trail(0, " + k + ", " + what + ")", x.trail(0, k, what), trail[k][what]);
            }
        }
        due("behind the last CUT", x.trail(0, trail.length, 0), -1);
    }

    private static void nothing() {
        PieceWords x = fresh("promise 25");
        words(x, 0, "abABcdCD;a;bcdCDabA;cabABcdCDC;");
        due("no LETTERS, no RELATORS", x.nothing(5), 1);
        due("no RELATORS", x.nothing(0), 0);
        relators(x, "abABcdCD;");
        for (int kind = 0; kind < 5; kind++) {
            x.chooser(kind);
            due("nothing(0)", x.nothing(0), 1);
            due("nothing(1)", x.nothing(1), 0);
            due("nothing(2)", x.nothing(2), 0);
            due("nothing(3)", x.nothing(3), 1);
        }
        due("the WORD stays", x.length(0), 8);
        relators(x, "abAB;");
        due("not GOOD by 6", x.nothing(0), -3);
        due("BAD ahead of NO", x.nothing(6), -2);
        due("nothing(-1)", x.nothing(-1), -2);
        dueRefusals(x, 2, 1, 0);
        relators(x, "abcABCd;");
        due("good(6)", x.good(6), 1);
        due("GOOD by 6, but not by 7", x.nothing(1), 0);
    }

    private static void same() {
        PieceWords x = fresh("promise 26");
        relators(x, "abABcdCD;");
        words(x, 0, "abAB;dcDC;abBaA;a;a9a9a9a3;b9b9b9b4;");
        due("half and half", x.same(0, 1), 1);
        due("half and another", x.same(0, 2), 0);
        due("a and a", x.same(2, 3), 1);
        due("itself, long", x.same(5, 5), 1);
        due("61 LETTERS", x.same(4, 5), -4);
        words(x, 5, "b9b9b9b3;");
        due("60 LETTERS", x.same(4, 5), 0);
        words(x, 5, "a9a9a9a9;");
        due("66 LETTERS that reduce", x.same(4, 5), 0);
        due("they stay", x.length(4), 30);
        relators(x, "abAB;");
        due("not GOOD by 6", x.same(0, 1), -3);
        due("NO ahead of FULL", x.same(4, 5), -3);
        for (int w : new int[] {-1, 6}) {
            due("a", x.same(w, 0), -2);
            due("b", x.same(0, w), -2);
        }
        dueRefusals(x, 4, 2, 1);
    }

    private static void order() {
        PieceWords x = fresh("promise 27");
        words(x, 0, "a;a2;ba3B;b;a9a9a3;");
        due("no RELATORS", x.order(0), -1);
        due("no LETTERS", x.order(5), 1);
        relators(x, "a6;");
        due("order(0)", x.order(0), 6);
        due("order(1)", x.order(1), 3);
        due("order(2)", x.order(2), 2);
        due("order(3)", x.order(3), -1);
        due("42 LETTERS", x.order(4), 2);
        relators(x, "a7;");
        due("more than 6 times", x.order(0), -1);
        due("order(4)", x.order(4), 1);
        relators(x, "a4;");
        due("84 LETTERS", x.order(4), -1);
        words(x, 4, "a9a6;");
        due("60 LETTERS, but the 4th time", x.order(4), 4);
        words(x, 4, "a9a9aa;");
        due("20 LETTERS", x.order(4), 1);
        words(x, 4, "b9b9b8a2B9B9B8;");
        due("two LETTERS and many ends", x.order(4), 2);
        due("it stays", x.length(4), 54);
        relators(x, "abAB;");
        due("not GOOD by 6", x.order(0), -3);
        due("order(6)", x.order(6), -2);
        due("order(-1)", x.order(-1), -2);
        dueRefusals(x, 2, 1, 0);
    }

    private static void turned() {
        PieceWords x = fresh("promise 28");
        words(x, 0, "cabdC;bda;b;a9;bBa;");
        due("no RELATORS: a TURN", x.turned(0, 1), 100);
        due("the other way", x.turned(1, 0), 200);
        due("not at all", x.turned(0, 2), -1);
        due("no LETTERS", x.turned(5, 5), 0);
        due("no LETTERS and one", x.turned(5, 2), -1);
        due("one and no LETTERS", x.turned(2, 5), -1);
        due("a ring of 9", x.turned(3, 2), -3);
        due("the other ring of 9", x.turned(2, 3), -3);
        words(x, 3, "ba8B;");
        due("a ring of 8", x.turned(3, 2), -1);
        due("the other ring of 8", x.turned(2, 3), -1);
        relators(x, "acBC;");
        due("not GOOD by 6", x.turned(0, 0), -3);
        relators(x, "abABcdCD;");
        words(x, 0, "abAB;dcDC;");
        due("by SHORTENING", x.turned(0, 1), 0);
        dueRefusals(x, 0, 3, 0);
        for (int w : new int[] {-1, 6}) {
            due("a", x.turned(w, 0), -2);
            due("b", x.turned(0, w), -2);
        }
        dueRefusals(x, 4, 3, 0);
        turnedByBeginnings();
    }

    private static void turnedByBeginnings() {
        PieceWords x = fresh("promise 28, by beginnings");
        // Bad, c, the INVERSE of daB and C in a row are the RELATOR
        relators(x, "BadcbADC;");
        due("it is GOOD by 6", x.good(6), 1);
        words(x, 0, "Bad;daB;adB;cBadC;");
        due("by one LETTER", x.turned(0, 1), 1);
        due("the other way", x.turned(1, 0), 1);
        due("by two LETTERS of a MEMBER", x.turned(2, 1), 2);
        due("by the ring", x.turned(3, 1), 1);
        for (int kind = 0; kind < 5; kind++) {
            x.chooser(kind);
            due("by any chooser", x.turned(0, 1), 1);
        }
        relators(x, "a9b5;");
        relators(x, "cbADCBad;");
        due("by the first MEMBER's beginning, other RELATORS gone", x.turned(0, 1), 1);
        relators(x, "BDaDDcdbdaacDC;");
        due("it is GOOD by 6", x.good(6), 1);
        words(x, 0, "BDaDD;CAADB;DaDDB;");
        due("by two LETTERS", x.turned(0, 1), 2);
        due("by a TURN and two LETTERS", x.turned(2, 1), 402);
    }

    private static void nothings() {
        PieceWords x = fresh("promise 29");
        for (int n = 1; n <= 4; n++) {
            due("no RELATORS", x.nothings(n), 0);
        }
        relators(x, "a;");
        due("a and A", x.nothings(1), 2);
        due("aa and AA", x.nothings(2), 2);
        due("aaa, AAA, but not baB", x.nothings(3), 2 + 12);
        relators(x, "a2;");
        due("nothings(1)", x.nothings(1), 0);
        due("nothings(2)", x.nothings(2), 2);
        due("nothings(3)", x.nothings(3), 0);
        due("aaaa, AAAA, and baaB", x.nothings(4), 2 + 12);
        relators(x, "a;b;c;");
        due("all without d and D", x.nothings(1), 6);
        relators(x, "abABcdCD;");
        due("nothings(4)", x.nothings(4), 0);
        relators(x, "abAB;");
        due("not GOOD by 6", x.nothings(1), -3);
        for (int n : new int[] {0, 5, -1, LOW, HIGH}) {
            due("nothings(" + n + ")", x.nothings(n), -2);
        }
        dueRefusals(x, 5, 1, 0);
        due("no WORD has changed", x.told(7), 0);
    }

    private static void draw() {
        PieceWords x = fresh("promise 30");
        // X: 12345, 1406932606, 654583775, 1449466924, 229283573, 1109335178
        due("draw(0, 1, 0)", x.draw(0, 1, 0), 1);
        dueText("WORD 0", show(x, 0), "a");
        due("draw(0, 5, 0)", x.draw(0, 5, 0), drawnByHand(0, 5).length());
        dueText("WORD 0", show(x, 0), drawnByHand(0, 5));
        due("draw(999999, 60, 1)", x.draw(999999, 60, 1), drawnByHand(999999, 60).length());
        dueText("WORD 1", show(x, 1), drawnByHand(999999, 60));
        due("none", x.draw(5, 0, 0), 0);
        due("length(0)", x.length(0), 0);
        due("seed", x.draw(-1, 1, 0), -2);
        due("seed", x.draw(1000000, 1, 0), -2);
        due("n", x.draw(0, -1, 0), -2);
        due("n", x.draw(0, 61, 0), -2);
        due("to", x.draw(0, 1, 6), -2);
        due("to", x.draw(0, 1, -1), -2);
        dueRefusals(x, 6, 0, 0);
    }

    private static String drawnByHand(long seed, int n) {
        StringBuilder drawn = new StringBuilder();
        long state = seed;
        for (int k = 0; k < n; k++) {
            state = (state * 1103515245L + 12345L) & 0x7fffffffL;
            char l = "abcdABCD".charAt((int) (state >> 16 & 7));
            int end = drawn.length() - 1;
            if (end >= 0 && drawn.charAt(end) == (char) (l ^ 32)) {
                drawn.setLength(end);
            } else {
                drawn.append(l);
            }
        }
        return drawn.toString();
    }

    private static void loops() {
        PieceWords x = fresh("promise 31");
        due("no RELATORS", x.loops(0, 0, 0), -3);
        due("BAD ahead of NO", x.loops(0, 7, 0), -2);
        relators(x, "cd;");
        // X is 12345: MEMBER 0, LETTER 12 by 8: 4; then 1406932606: 21468 by 4: 0, 1373957 by 8: 5
        due("loops(0, 1, 0)", x.loops(0, 1, 0), 4);
        dueText("WORD 0", show(x, 0), "Acda");
        due("loops(0, 2, 0)", x.loops(0, 2, 0), 8);
        dueText("WORD 0", show(x, 0), "AcdaBcdb");
        due("none", x.loops(0, 0, 0), 0);
        relators(x, "a9b5;");
        words(x, 1, "abc;");
        due("too long", x.loops(0, 6, 1), -4);
        dueText("WORD 1", show(x, 1), "abc");
        due("just 60", x.loops(4, 4, 1), 60);
        due("then more", x.loops(4, 5, 1), -4);
        due("still few", x.loops(391, 3, 1), 46);
        due("more than 60", x.loops(391, 4, 1), -4);
        due("as soon as that, though 46 would come of it", x.loops(391, 5, 1), -4);
        due("the last SEED", x.loops(999999, 0, 0), 0);
        due("seed", x.loops(-1, 1, 0), -2);
        due("seed", x.loops(1000000, 1, 0), -2);
        due("n", x.loops(0, -1, 0), -2);
        due("n", x.loops(0, 7, 0), -2);
        due("to", x.loops(0, 1, 6), -2);
        due("to", x.loops(0, 1, -1), -2);
        dueRefusals(x, 7, 1, 4);
        relators(x, "a9a5;");
        due("just 60", x.loops(9, 4, 1), 60);
        due("then fewer", x.loops(9, 5, 1), 46);
    }

    private static void told() {
        PieceWords x = fresh("promise 32");
        relators(x, "abc;cd;");
        words(x, 1, "ab;cd2;");
        x.chooser(3);
        x.type(200);
        x.turn(0, 5, 0);
        x.turn(0, 6, 0);
        words(x, 0, "(a9b6)4;");
        x.adds(0, 0);
        x.adds(0, 0);
        x.adds(0, 1);
        int[] all = {1, 2, 3, 8, 2, 10, 3, 65};
        for (int what = 0; what < 8; what++) {
            due("told(" + what + ")", x.told(what), all[what]);
        }
        for (int what : new int[] {-1, 8, LOW, HIGH}) {
            due("told(" + what + ")", x.told(what), -2);
        }
        due("told(0)", x.told(0), 5);
    }

    private static void digest() {
        PieceWords x = fresh("promise 33");
        long h = 1907;
        for (int k = 0; k < 14; k++) {
            h = 31 * h;
        }
        due("new", x.digest(), h);
        relators(x, "ab;C;");
        words(x, 0, "aD;b;");
        x.chooser(2);
        x.told(9);
        h = 1907;
        int[] values = {1, 0, 0, 5, 2, 6, 2, 3, 2, 0, 1, 1, 6, 2, 0, 7, 1, 1, 0, 0, 0, 0};
        for (int v : values) {
            h = 31 * h + v;
        }
        due("digest()", x.digest(), h);
        due("again", x.digest(), h);
    }
}
