/** The boundary cases of THE TEXT: part 2 of the terms, promises 2 to 6. */
public final class EdgeTexts {
    private static final String LETTERS = "abcdABCD";
    private static final String FIGURES = "123456789";

    public static void main(String[] args) {
        bytes();
        roomOfTheText();
        readingAFullText();
        clearing();
        eachByteAtEachPlace();
        wordsEndBySemicolon();
        figures();
        brackets();
        blanks();
        firstOfSeveralFaults();
        endsTooEarly();
        tooLong();
        tooLongWithinBrackets();
        oneTooMany();
        noLettersLeft();
        moreThanFourteen();
        firstWordThatIsWrong();
        placeOfTheWord();
        relatorsBecome();
        relatorsFaultLeavesAll();
        wordsFrom();
        wordsFaultLeavesAll();
        faultsAreForgotten();
        chooserKinds();
        Edge.end();
    }

    private static String times(String s, int n) {
        return s.repeat(n);
    }

    private static void dueWords(String text, int want) {
        Edge.due("words(0) of '" + text + "'", Edge.words(new PieceWords(), 0, text), want);
    }

    private static void dueRelators(String text, int want) {
        Edge.due("relators() of '" + text + "'", Edge.relators(new PieceWords(), text), want);
    }

    private static void dueBoth(String text, int want) {
        dueWords(text, want);
        dueRelators(text, want);
    }

    private static void bytes() {
        Edge.sentence("promise 2", "A byte (0 .. 127) comes behind THE TEXT: how many it has. BAD");
        PieceWords x = new PieceWords();
        Edge.due("type(0)", x.type(0), 1);
        Edge.due("type(127)", x.type(127), 2);
        for (int c : new int[] {-1, 128, -128, 255, 256, 353, Edge.LOW, Edge.HIGH}) {
            Edge.refused(() -> Edge.make("ab;", "c;"), "type(" + c + ")", y -> y.type(c), Edge.BAD);
        }
        for (int c = 0; c < 128; c++) {
            Edge.due("type(" + c + ")", x.type(c), c + 3 <= 100 ? c + 3 : Edge.FULL);
        }
    }

    private static void roomOfTheText() {
        Edge.sentence("promise 2", "FULL: 100");
        PieceWords x = new PieceWords();
        for (int k = 1; k <= 100; k++) {
            Edge.due("the byte " + k, x.type(' '), k);
        }
        Edge.dueRefusals(x, 0, 0, 0);
        Edge.due("one more", x.type('a'), Edge.FULL);
        Edge.due("and one more", x.type(';'), Edge.FULL);
        Edge.due("told(3)", x.told(3), 100);
        Edge.dueRefusals(x, 0, 0, 2);
        Edge.due("they did not come", x.words(0), -110);
        x.clear();
        Edge.due("there is room again", x.type('a'), 1);
        Edge.refused(() -> Edge.make("", times(" ", 98) + "a;"), "type(97)", y -> y.type('a'), Edge.FULL);
    }

    private static void readingAFullText() {
        Edge.sentence("terms 2", "THE TEXT (100 bytes at most)");
        dueBoth(times(" ", 98) + "a;", 1);
        dueBoth("a;" + times(" ", 98), 1);
        dueBoth(times(" ", 99) + "a", -110);
        dueBoth(times(" ", 100), -110);
        dueBoth("a;" + times(" ", 97) + ";", -109);
        dueBoth("a;" + times(" ", 97) + ")", -109);
        PieceWords x = Edge.make("", times("aA", 29) + "ab" + times(" ", 39) + ";");
        Edge.dueText("WORD 0 of 100 bytes", Edge.word(x, 0), "ab");
    }

    private static void clearing() {
        Edge.sentence("promise 3", "THE TEXT is empty: how many it had.");
        PieceWords x = new PieceWords();
        Edge.due("of the empty TEXT", x.clear(), 0);
        Edge.text(x, times("a", 100));
        Edge.due("of the full TEXT", x.clear(), 100);
        Edge.due("told(3)", x.told(3), 0);
        Edge.due("again", x.clear(), 0);
        Edge.due("it is empty", x.words(0), -10);
        x.type('b');
        x.type(';');
        Edge.due("what comes is all", x.words(0), 1);
        Edge.dueText("WORD 0", Edge.word(x, 0), "b");
        Edge.due("the WORDS stay", x.clear() + x.length(0), 3);
    }

    /** Behind each beginning each of the 128 bytes: one that can stand there makes the TEXT longer ahead of its FAULT. */
    private static void eachByteAtEachPlace() {
        Edge.sentence("terms 2", "FAULT: the place of the first byte that can not stand there");
        String starts = LETTERS + " (";
        String goesOn = LETTERS + " (";
        byteBehind("", starts);
        byteBehind(" ", starts);
        byteBehind("a", goesOn + FIGURES + ";");
        byteBehind("D", goesOn + FIGURES + ";");
        byteBehind("a ", goesOn + ";");
        byteBehind("a2", goesOn + ";");
        byteBehind("a9 ", goesOn + ";");
        byteBehind("a;", starts);
        byteBehind("a; ", starts);
        byteBehind("(", starts);
        byteBehind("( ", starts);
        byteBehind("(a", goesOn + FIGURES + ")");
        byteBehind("(a ", goesOn + ")");
        byteBehind("(a3", goesOn + ")");
        byteBehind("(a)", goesOn + FIGURES + ";");
        byteBehind("(a) ", goesOn + ";");
        byteBehind("(a)4", goesOn + ";");
        byteBehind("a(", starts);
        byteBehind("((((", LETTERS + " ");
        byteBehind("((((a", LETTERS + " )" + FIGURES);
        byteBehind("((((a)", goesOn + FIGURES + ")");
        byteBehind("(((", starts);
    }

    private static void byteBehind(String begun, String canStand) {
        for (char c = 0; c < 128; c++) {
            String text = begun + c;
            boolean stands = canStand.indexOf(c) >= 0;
            boolean isWhole = stands && (c == ';' || c == ' ' && begun.indexOf(';') >= 0);
            int want = isWhole ? 1 : -10 - (stands ? text.length() : begun.length());
            Edge.due("words(0) of '" + begun + "' and byte " + (int) c, Edge.words(new PieceWords(), 0, text), want);
        }
    }

    private static void wordsEndBySemicolon() {
        Edge.sentence("terms 2", "tells WORDS, each ended by ; : one or more FACTORS");
        dueBoth("a;", 1);
        dueBoth("a;b;c;", 3);
        dueBoth(";", -10);
        dueBoth("a;;", -12);
        dueBoth("a; ;", -13);
        dueBoth(";a;", -10);
        dueBoth("a;b", -13);
        dueWords("a;b;c;d;A;B;", 6);
    }

    private static void figures() {
        Edge.sentence("terms 2", "each perhaps with a figure 1 .. 9 behind it (that many times)");
        for (int n = 1; n <= 9; n++) {
            PieceWords x = Edge.make("", "a" + n + ";(bc)" + n + ";");
            Edge.dueText("a" + n, Edge.word(x, 0), times("a", n));
            Edge.dueText("(bc)" + n, Edge.word(x, 1), times("bc", n));
        }
        dueBoth("a0;", -11);
        dueBoth("a/;", -11);
        dueBoth("a:;", -11);
        dueBoth("a11;", -12);
        dueBoth("a19;", -12);
        dueBoth("(a)22;", -14);
        dueBoth("1a;", -10);
        dueBoth("(1a);", -11);
        dueBoth("a;2;", -12);
        PieceWords x = Edge.make("", "ab2c;a(bc)2d;((ab)2c)2;(aB)1;a(A)2b;");
        Edge.dueText("the LETTER alone", Edge.word(x, 0), "abbc");
        Edge.dueText("what is within alone", Edge.word(x, 1), "abcbcd");
        Edge.dueText("within others", Edge.word(x, 2), "ababcababc");
        Edge.dueText("once", Edge.word(x, 3), "aB");
        Edge.dueText("ahead of being REDUCED", Edge.word(x, 4), "Ab");
        x = Edge.make("", "b;a((((ab)2c)2d)2a)2b;");
        String deep = times(times(times(times("ab", 2) + "c", 2) + "d", 2) + "a", 2);
        Edge.dueText("4 deep", Edge.word(x, 1), "a" + deep + "b");
    }

    private static void brackets() {
        Edge.sentence("terms 2", "4 deep at most; a 5th ( within others, ) where none is open or nothing is within, too");
        dueBoth("((((a))));", 1);
        dueBoth("(((((a)))));", -14);
        dueBoth("a((((b))))((((c))));", 1);
        dueBoth("((((a))))(((((b)))));", -23);
        dueBoth("((((a))));((((b))));", 2);
        dueBoth("((((a)(b))));", 1);
        dueBoth("(((a)(b(c)(d))));", 1);
        dueBoth("(((a)(b(c(d)))));", -19);
        dueBoth("( ( ( ( (", -18);
        dueBoth(");", -10);
        dueBoth("a);", -11);
        dueBoth("(a));", -13);
        dueBoth("a;b);", -13);
        dueBoth("();", -11);
        dueBoth("(  );", -13);
        dueBoth("a();", -12);
        dueBoth("(a());", -13);
        dueBoth("(a)();", -14);
        dueBoth("((a)());", -15);
        dueBoth("(a;b);", -12);
        dueBoth("(a);", 1);
    }

    private static void blanks() {
        Edge.sentence("terms 2", "Blanks (32) may stand anywhere, but ahead of a figure.");
        dueBoth(" a;", 1);
        dueBoth("a ;", 1);
        dueBoth("a; ", 1);
        dueBoth("a2 ;", 1);
        dueBoth("  (  a  (  b  )  )  ;  c  ;  ", 2);
        dueBoth("a 2;", -12);
        dueBoth("a  2;", -13);
        dueBoth("(a) 2;", -14);
        dueBoth("(a 2);", -13);
        dueBoth("a2 3;", -13);
        dueBoth(" 2;", -11);
        dueBoth("a\t;", -11);
        dueBoth("a" + (char) 31 + ";", -11);
        dueBoth("a!;", -11);
        PieceWords x = Edge.make("", " a b2 ( c d )2 A ; ");
        Edge.dueText("WORD 0", Edge.word(x, 0), "abbcdcdA");
    }

    private static void firstOfSeveralFaults() {
        Edge.sentence("terms 2", "the place of the first byte that can not stand there");
        dueBoth("ea;e", -10);
        dueBoth("a;e2(", -12);
        dueBoth("a)e", -11);
        dueBoth("a2 2e", -13);
        dueBoth("(e", -11);
    }

    private static void endsTooEarly() {
        Edge.sentence("terms 2", "the TEXT's length, if it ends too early (an empty one, too)");
        dueBoth("", -10);
        dueBoth(" ", -11);
        dueBoth("a", -11);
        dueBoth("a9", -12);
        dueBoth("a ", -12);
        dueBoth("(", -11);
        dueBoth("(a", -12);
        dueBoth("(a)", -13);
        dueBoth("a;b", -13);
        dueBoth("a;b ", -14);
        dueBoth("a;(", -13);
        dueBoth("a;((b)", -16);
    }

    private static void tooLong() {
        Edge.sentence("terms 2", "the first WORD begins that is too long ahead of being REDUCED (above 60)");
        dueWords(Edge.SIXTY, 1);
        dueWords("(a9b6)4c;", -10);
        dueWords("c(a9b6)4;", -10);
        dueWords("a9a9a9a9a9a9a6;", 1);
        dueWords("a9a9a9a9a9a9a7;", -10);
        dueWords("(aA)9(aA)9(aA)9(aA)3;", 1);
        dueWords("(aA)9(aA)9(aA)9(aA)3a;", -10);
        dueWords("(aA)9(aA)9(aA)9(aA)4;", -10);
        dueWords("b;(aA)9(aA)9(aA)9(aA)4;c;", -12);
        dueRelators("b;d(aA)9(aA)9(aA)9a5;", 1 + 1);
        dueRelators("b;d(aA)9(aA)9(aA)9a6;", -12);
        dueRelators("b9b9b9b2(aA)2B9B9B9B2;", -10);
        PieceWords x = Edge.make("", "c;" + Edge.SIXTY);
        Edge.due("length(1)", x.length(1), 60);
        x = Edge.make("", "(aA)9(aA)9(aA)9(aA)2ab;");
        Edge.dueText("60 of which 2 stay", Edge.word(x, 0), "ab");
    }

    private static void tooLongWithinBrackets() {
        Edge.sentence("terms 2", "too long ahead of being REDUCED (above 60): by figures");
        dueWords("((((a9)9)9)9)9;", -10);
        dueWords("((((aA)9)9)9)9;", -10);
        dueWords("(a6)9a6;", 1);
        dueWords("(a7)9;", -10);
        dueWords("((a3)4)5;", 1);
        dueWords("((a3)4a)5;", -10);
        dueWords("(a9b6)4(cC)9;", -10);
        dueWords("b;((a3)4)5;((a3)4a)5;", -21);
        dueWords("((((a9)9)9)9)9;e", -25);
    }

    private static void oneTooMany() {
        Edge.sentence("terms 2", "that is one too many: promise 4 (3 at most), promise 5 (6 less w at most)");
        dueRelators("a;b;c;", 3);
        dueRelators("a;b;c;d;", -16);
        dueRelators("a;b;c; d;a;b;", -17);
        for (int w = 0; w < 6; w++) {
            Edge.due("as many as can be from " + w, Edge.words(new PieceWords(), w, times("a;", 6 - w)), 6 - w);
            Edge.due("one more from " + w, Edge.words(new PieceWords(), w, times("a;", 7 - w)), -10 - 2 * (6 - w));
        }
        dueWords(times("a;", 50), -22);
    }

    private static void noLettersLeft() {
        Edge.sentence("terms 2", "or (relators()) that has no LETTERS left");
        dueRelators("aA;", -10);
        dueRelators("b;aA;", -12);
        dueRelators("abBA;", -10);
        dueRelators("a(bB)2A;", -10);
        dueRelators("aAb;", 1);
        dueRelators("abA;", 1);
        dueWords("aA;", 1);
        dueWords("b;abBA;c;", 3);
        PieceWords x = Edge.make("", "b;abBA;c;");
        Edge.due("length(1)", x.length(1), 0);
        Edge.dueText("WORD 2", Edge.word(x, 2), "c");
    }

    private static void moreThanFourteen() {
        Edge.sentence("terms 2", "or more than 14, being REDUCED and its ends left out as long as they are OPPOSITES");
        dueRelators("a9a5;", 1);
        dueRelators("a9a6;", -10);
        dueRelators("b;a9b5;a9b6;", -17);
        dueRelators("a9a5bB;", 1);
        dueRelators("ba9a5B;", 1);
        dueRelators("ba9a6B;", -10);
        dueRelators("ba9a5B2;", -10);
        dueRelators("b9b9b5a9a5B9B9B5;", 1);
        dueRelators("b9b9b4a9a6B9B9B4;", -10);
        dueRelators("b9b9b4a9a5bB9B9B5;", 1);
        dueWords("a9a6;", 1);
        PieceWords x = Edge.make("ba9a5B;", "");
        Edge.due("relator(0, 0)", x.relator(0, 0), 14);
        Edge.dueText("MEMBER 0", Edge.member(x, 0), times("a", 14));
        x = Edge.make("abcBA;", "");
        Edge.dueText("one LETTER is left", Edge.members(x), "c C");
    }

    private static void firstWordThatIsWrong() {
        Edge.sentence("terms 2", "Behind these: the place at which the first WORD begins that is too long .., one too many, or ..");
        dueRelators("a;b;c;aA;", -16);
        dueRelators("a;b;aA;d;", -14);
        dueRelators("a;a9a6;aA;d;", -12);
        dueRelators("aA;a9a9a9a9a9a9a9;", -10);
        dueRelators("a9a9a9a9a9a9a9;aA;", -10);
        dueRelators("a;b;c;a9a9a9a9a9a9a9;", -16);
        dueRelators("a;b;a9a9a9a9a9a9a9;d;", -14);
        dueWords("a;a;a;a;a;a;(a9)9;", -22);
        dueWords("a;a;a;a;a;(a9)9;a;", -20);
        Edge.sentence("terms 2", "Behind these");
        dueRelators("aA;b;c;d;e", -19);
        dueRelators("aA;b", -14);
        dueRelators("a;b;c;d;(", -19);
        dueRelators("(a9)9;b0;", -17);
        dueWords("(a9)9;b", -17);
        dueWords("a;a;a;a;a;a;a;)", -24);
    }

    private static void placeOfTheWord() {
        Edge.sentence("terms 2", "the place at which the first WORD begins");
        dueRelators("   aA;", -13);
        dueRelators("a;  ( a A );", -14);
        dueRelators("a; b ;c  ; d;", -21);
        dueWords("  (a9)9;", -12);
        dueWords("c ; ( a9 )9;", -14);
    }

    private static void relatorsBecome() {
        Edge.sentence("promise 4", "RELATORS become the WORDS of THE TEXT (3 at most; ends left out as told): how many.");
        PieceWords x = Edge.make("ab;cd2;d;", "a;");
        Edge.due("told(4)", x.told(4), 3);
        Edge.due("fewer", Edge.relators(x, "dabD;"), 1);
        Edge.due("told(4)", x.told(4), 1);
        Edge.dueText("those of before are gone", Edge.members(x), "ab ba BA AB");
        Edge.due("relator(1, 0)", x.relator(1, 0), Edge.BAD);
        Edge.due("THE TEXT stays", x.told(3), 5);
        Edge.due("again", x.relators(), 1);
        Edge.dueText("WORD 0 stays", Edge.word(x, 0), "a");
        Edge.due("more", Edge.relators(x, "a;b;c;"), 3);
        Edge.dueText("MEMBERS", Edge.members(x), "a A b B c C");
    }

    private static void relatorsFaultLeavesAll() {
        Edge.sentence("promise 4", "-10 less the FAULT: all stays.");
        String[] texts = {"", "a", "c;d;a;b;", "c;aA;", "c;a9a6;", "c;(a9)9;", "e"};
        int[] faults = {0, 1, 6, 2, 2, 2, 0};
        for (int k = 0; k < texts.length; k++) {
            String text = texts[k];
            Edge.changesNothing(() -> withText("abc;d2;", "ab;c;", text), "relators() of '" + text + "'",
                PieceWords::relators, -10 - faults[k]);
        }
    }

    private static PieceWords withText(String relators, String words, String text) {
        PieceWords x = Edge.make(relators, words);
        x.chooser(1);
        Edge.text(x, text);
        return x;
    }

    private static void wordsFrom() {
        Edge.sentence("promise 5", "WORDS from w (0 .. 5) on become those of THE TEXT: how many. BAD.");
        PieceWords x = Edge.make("ab;", "a;a2;a3;a4;a5;a6;");
        Edge.due("at the first", Edge.words(x, 0, "b;"), 1);
        Edge.dueText("WORD 0", Edge.word(x, 0), "b");
        Edge.dueText("WORD 1 stays", Edge.word(x, 1), "aa");
        Edge.due("at the last", Edge.words(x, 5, "c;"), 1);
        Edge.dueText("WORD 5", Edge.word(x, 5), "c");
        Edge.dueText("WORD 4 stays", Edge.word(x, 4), "aaaaa");
        Edge.due("between", Edge.words(x, 2, "d;dD;"), 2);
        Edge.dueText("WORD 1 stays", Edge.word(x, 1), "aa");
        Edge.dueText("WORD 2", Edge.word(x, 2), "d");
        Edge.dueText("WORD 3", Edge.word(x, 3), "");
        Edge.dueText("WORD 4 stays", Edge.word(x, 4), "aaaaa");
        Edge.due("the RELATORS stay", x.told(4), 1);
        Edge.due("the ends of WORDS stay", Edge.words(x, 0, "abA;"), 1);
        Edge.dueText("WORD 0", Edge.word(x, 0), "abA");
        for (int w : new int[] {-1, 6, Edge.LOW, Edge.HIGH}) {
            Edge.refused(() -> Edge.make("ab;", "c;"), "words(" + w + ")", y -> y.words(w), Edge.BAD);
            Edge.refused(() -> withText("ab;", "c;", "e"), "words(" + w + ") of a FAULT", y -> y.words(w), Edge.BAD);
        }
    }

    private static void wordsFaultLeavesAll() {
        Edge.sentence("promise 5", "-10 less the FAULT: all stays.");
        String[] texts = {"", "a", "c;d;a;b;", "c;(a9)9;", "e", "c;d;a b 2;"};
        int[] faults = {0, 1, 6, 2, 0, 8};
        for (int k = 0; k < texts.length; k++) {
            String text = texts[k];
            Edge.changesNothing(() -> withText("abc;d2;", "ab;c;d;A;B2;C;", text), "words(3) of '" + text + "'",
                y -> y.words(3), -10 - faults[k]);
        }
    }

    /** Behind each TEXT that can not be read one that begins where the other broke off: it is read from its first byte on. */
    private static void faultsAreForgotten() {
        Edge.sentence("terms 2", "FAULT: the place of the first byte that can not stand there, whatever THE TEXT was ahead of it");
        String[] broken = {"a", "a2", "(", "(a", "(a)", "((((a", "a;b", "a e", "a)", "(a9)9;"};
        String[] next = {";", "2;", ")", "a)", ") ;", "((((a))));", "a;", "(a)2;"};
        int[] want = {-10, -10, -10, -11, -10, 1, 1, 1};
        for (String text : broken) {
            for (int k = 0; k < next.length; k++) {
                PieceWords x = new PieceWords();
                Edge.words(x, 0, text);
                Edge.due("words(0) of '" + next[k] + "' behind '" + text + "'", Edge.words(x, 0, next[k]), want[k]);
                Edge.relators(x, text);
                Edge.due("relators() of '" + next[k] + "' behind '" + text + "'", Edge.relators(x, next[k]), want[k]);
            }
        }
        PieceWords x = Edge.make("", "a9;");
        Edge.due("the WORD ahead is gone", Edge.words(x, 0, "(bc)2;"), 1);
        Edge.dueText("WORD 0", Edge.word(x, 0), "bcbc");
    }

    private static void chooserKinds() {
        Edge.sentence("promise 6", "THE CHOOSER's KIND: what it was. BAD. (KIND, 0 .. 4; 0 at first)");
        PieceWords x = new PieceWords();
        Edge.due("the greatest", x.chooser(4), 0);
        Edge.due("the least", x.chooser(0), 4);
        Edge.due("the same", x.chooser(0), 0);
        for (int kind : new int[] {-1, 5, Edge.LOW, Edge.HIGH}) {
            Edge.refused(() -> withText("ab;", "c;", "a;"), "chooser(" + kind + ")", y -> y.chooser(kind), Edge.BAD);
        }
    }
}
