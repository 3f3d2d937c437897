/** The boundary cases of CUTS, choosers and what is decided by them: part 1 of the terms, promises 21 to 29. */
public final class EdgeShortening {
    private static final int[] NO_WORDS = {-1, 6, Edge.LOW, Edge.HIGH};
    private static final String[] KINDS = {"FIRST", "LAST", "GREEDY", "SHY", "LONG"};

    public static void main(String[] args) {
        moreThanHalf();
        asManyAsCanBe();
        cutsCounted();
        cutsNumbers();
        cutDone();
        cutReduced();
        cutNumbers();
        chosenOfEquals();
        chosenAtOnePlace();
        chosenOfManyPlaces();
        chosenByWhatIsSaved();
        shortenUntilNone();
        shortenNumbers();
        trails();
        trailNumbers();
        nothings();
        nothingGood();
        nothingNumbers();
        same();
        sameOfSixty();
        sameNumbers();
        orders();
        ordersOfSixty();
        orderNumbers();
        turnedRings();
        turnedEmptyRings();
        turnedByTurns();
        turnedByBeginnings();
        turnedNumbers();
        countedNothings();
        countedNothingsNumbers();
        Edge.end();
    }

    /** Not GOOD by 6, but by 5. */
    private static PieceWords notGood() {
        PieceWords x = Edge.make("abcABC;", "ab;" + Edge.SIXTY + "c9;d;");
        x.chooser(4);
        return x;
    }

    private static PieceWords some() {
        PieceWords x = Edge.make(Edge.TORUS, "ab;" + Edge.SIXTY + "c9;d;abABcdCD;");
        x.chooser(4);
        return x;
    }

    private static void dueWord(PieceWords x, int w, String want) {
        Edge.dueText("WORD " + w, Edge.word(x, w), want);
    }

    private static void dueCuts(String relators, String word, int want) {
        Edge.due("cuts of " + word + " by " + relators, Edge.make(relators, word).cuts(0), want);
    }

    private static void moreThanHalf() {
        Edge.sentence("terms 1", "l LETTERS from place i on are as m begins, twice l being above m's length");
        dueCuts("abcd;", "ab;", 0);
        dueCuts("abcd;", "abc;", 1);
        dueCuts("abc;", "a;", 0);
        dueCuts("abc;", "ab;", 1);
        dueCuts("ab;", "a;", 0);
        dueCuts("ab;", "ab;", 1);
        dueCuts("a;", "a;", 1);
        dueCuts("a;", "A;", 1);
        dueCuts("a;", "b;", 0);
        dueCuts("a9a5;", "a7;", 0);
        dueCuts("a9a5;", "a8;", 1);
        dueCuts("a9a5;", "A8;", 1);
        dueCuts("a9a4;", "a6;", 0);
        dueCuts("a9a4;", "a7;", 1);
    }

    private static void asManyAsCanBe() {
        Edge.sentence("terms 1", "(as many as can be)");
        PieceWords x = Edge.make("a9a5;", "a9a9;ba9Cd;dabc;");
        Edge.due("cuts(0)", x.cuts(0), 11);
        Edge.due("l of the whole MEMBER", x.trail(0, 0, 2), 14);
        Edge.due("l up to another LETTER", x.trail(1, 0, 2), 9);
        Edge.due("its place", x.trail(1, 0, 0), 1);
        Edge.due("what is left", x.trail(1, 0, 3), 8);
        Edge.relators(x, "abcdB2;");
        Edge.due("no more than half up to the WORD's end", x.cuts(2), 0);
        Edge.relators(x, "abcdB;");
        Edge.due("l up to the WORD's end", x.trail(2, 0, 2), 3);
        Edge.due("its place", x.trail(2, 0, 0), 1);
    }

    private static void cutsCounted() {
        Edge.sentence("promise 21", "How many CUTS (place and MEMBER) a WORD has.");
        dueCuts("", "abc;", 0);
        dueCuts("", "aA;", 0);
        dueCuts("a;b;c;", "aA;", 0);
        dueCuts("a;", "a9a9a9a9a9a9a6;", 60);
        dueCuts("a;a2;a3;", "a9a9a9a9a9a9a6;", 178);
        dueCuts("a;a2;a3;", "A;", 1);
        dueCuts("a;a2;a3;", "A2;", 2 + 1 + 1);
        dueCuts("abc;abd;", "ab;", 2);
        dueCuts("abc;abc;", "ab;", 1);
        dueCuts("ab;", "cab;", 1);
        dueCuts("ab;", "abc;", 1);
        dueCuts("ab;", "aba;", 2);
    }

    private static void cutsNumbers() {
        Edge.sentence("promise 21", "BAD.");
        for (int w : NO_WORDS) {
            Edge.refused(EdgeShortening::some, "cuts(" + w + ")", y -> y.cuts(w), Edge.BAD);
        }
        Edge.changesNothing(EdgeShortening::some, "cuts(4)", y -> y.cuts(4), 4);
        Edge.changesNothing(EdgeShortening::some, "cuts(5)", y -> y.cuts(5), 0);
    }

    private static void dueCut(String relators, int kind, String word, String want) {
        PieceWords x = Edge.make(relators, word);
        x.chooser(kind);
        Edge.due("cut of " + word + " by " + relators, x.cut(0), want.length());
        dueWord(x, 0, want);
    }

    private static void cutDone() {
        Edge.sentence("terms 1", "The CUT done: these l LETTERS become the INVERSE of what m has behind its first l ones");
        dueCut("a;", 0, "a;", "");
        dueCut("a;", 0, "bAc;", "bc");
        dueCut("abcd;", 0, "abcd;", "");
        dueCut("abcd;", 0, "abc;", "D");
        dueCut("abcdd;", 0, "abc;", "DD");
        dueCut("abcdc;", 0, "BabcB;", "BCDB");
        dueCut("abcd;", 0, "cabc;", "cD");
        dueCut("a9a5;", 0, "a8;", "AAAAAA");
        dueCut("a9a5;", 0, "a9a4;", "A");
        dueCut("a9a5;", 0, "a9a5;", "");
        dueCut("a9a5;", 0, "a9a6;", "a");
        dueCut("a;", 0, "a9a9a9a9a9a9a6;", "a".repeat(59));
    }

    private static void cutReduced() {
        Edge.sentence("terms 1", "then the WORD is REDUCED");
        dueCut("abcd;", 0, "babcdB;", "");
        dueCut("abcd;", 0, "bcabcdCd;", "bd");
        dueCut("abcd;", 1, "dabcD;", "D");
        dueCut("abcd;", 1, "cdabC;", "C");
        dueCut("a;", 1, "b9b9b9b2aB9B9B9B2;", "");
    }

    private static void cutNumbers() {
        Edge.sentence("promise 22", "how many LETTERS are left. BAD; NO: there is none.");
        for (int w : NO_WORDS) {
            Edge.refused(EdgeShortening::some, "cut(" + w + ")", y -> y.cut(w), Edge.BAD);
            Edge.refused(PieceWords::new, "cut(" + w + "), no RELATORS", y -> y.cut(w), Edge.BAD);
        }
        Edge.refused(EdgeShortening::some, "cut(1)", y -> y.cut(1), Edge.NO);
        Edge.refused(EdgeShortening::some, "cut(5), no LETTERS", y -> y.cut(5), Edge.NO);
        Edge.refused(() -> Edge.make("", "a;"), "cut(0), no RELATORS", y -> y.cut(0), Edge.NO);
        Edge.refused(() -> Edge.make("abcd;", "ab;"), "cut(0), just half", y -> y.cut(0), Edge.NO);
        PieceWords x = some();
        Edge.due("cut(4)", x.cut(4), 0);
        Edge.due("cut(4) again", x.cut(4), Edge.NO);
    }

    /** The first CUT of the trail by each KIND: place, MEMBER, l, what is left. */
    private static void dueChosen(String relators, String word, int[][] cuts) {
        PieceWords x = Edge.make(relators, word);
        for (int kind = 0; kind < 5; kind++) {
            x.chooser(kind);
            for (int what = 0; what < 4; what++) {
                Edge.due("trail(0, 0, " + what + ") of " + word + " by " + relators + " and " + KINDS[kind],
                    x.trail(0, 0, what), cuts[kind][what]);
            }
        }
    }

    private static void chosenOfEquals() {
        Edge.sentence("terms 1", "the first one is taken until another comes that is better");
        int[] first = {0, 0, 2, 1};
        dueChosen("abc;abd;", "ab;", new int[][] {first, first, first, first, first});
        int[] atStart = {0, 0, 2, 3};
        dueChosen("ab;", "abcab;", new int[][] {atStart, {3, 0, 2, 3}, atStart, atStart, atStart});
        int[] one = {0, 0, 1, 59};
        dueChosen("a;", "a9a9a9a9a9a9a6;", new int[][] {one, {59, 0, 1, 59}, one, one, one});
    }

    private static void chosenAtOnePlace() {
        Edge.sentence("terms 1", "0 FIRST: one of the same place with greater l. 1 LAST: one of a greater place, or as FIRST.");
        // place 0: abc (l 2, saves 1), abd (l 3, saves 3); place 1: bda (l 2, saves 1)
        dueChosen("abc;abd;", "abd;", new int[][] {{0, 6, 3, 0}, {1, 7, 2, 0}, {0, 6, 3, 0}, {0, 0, 2, 2}, {0, 6, 3, 0}});
        // place 0 alone: ab (l 2, saves 2), abcdc (l 3, saves 1)
        dueChosen("ab;abcdc;", "abc;", new int[][] {{0, 4, 3, 2}, {0, 4, 3, 2}, {0, 0, 2, 1}, {0, 4, 3, 2}, {0, 4, 3, 2}});
        // the same with the shorter one last
        dueChosen("abcdc;ab;", "abc;", new int[][] {{0, 0, 3, 2}, {0, 0, 3, 2}, {0, 10, 2, 1}, {0, 0, 3, 2}, {0, 0, 3, 2}});
    }

    private static void chosenOfManyPlaces() {
        Edge.sentence("terms 1", "CUTS come by places rising, at one place by MEMBERS rising");
        // place 0: abc (l 3), abd (l 2); 1: bca (l 3); 2: cab (l 3); 3: abc and abd (l 2)
        dueChosen("abc;abd;", "abcab;", new int[][] {{0, 0, 3, 2}, {3, 0, 2, 2}, {0, 0, 3, 2}, {0, 6, 2, 4}, {0, 0, 3, 2}});
    }

    private static void chosenByWhatIsSaved() {
        Edge.sentence("terms 1", "2 GREEDY: one that saves more. 3 SHY: one that saves less. 4 LONG: one with greater l.");
        // place 0: ab (l 2, saves 2); place 3: cdcdcDa (l 4, saves 1)
        dueChosen("ab;cdcdcDa;", "abDcdcd;", new int[][] {{0, 0, 2, 5}, {3, 4, 4, 6}, {0, 0, 2, 5}, {3, 4, 4, 6}, {3, 4, 4, 6}});
        // place 0: cdcdcDa (l 4, saves 1); place 5: ab (l 2, saves 2)
        dueChosen("ab;cdcdcDa;", "cdcdBab;", new int[][] {{0, 4, 4, 6}, {5, 0, 2, 5}, {5, 0, 2, 5}, {0, 4, 4, 6}, {0, 4, 4, 6}});
    }

    private static void shortenUntilNone() {
        Edge.sentence("terms 1", "SHORTENING: CUTS as THE CHOOSER takes them, until there is none.");
        PieceWords x = Edge.make("a;b;", Edge.SIXTY + "c;abcabdab;");
        Edge.due("as many as can be", x.shorten(0), 60);
        Edge.due("length(0)", x.length(0), 0);
        Edge.due("none", x.shorten(1), 0);
        dueWord(x, 1, "c");
        Edge.due("of no LETTERS", x.shorten(5), 0);
        Edge.relators(x, "ab;");
        Edge.due("three", x.shorten(2), 3);
        dueWord(x, 2, "cd");
        Edge.due("none is left", x.shorten(2), 0);
        x = Edge.make("", "ab;");
        Edge.due("no RELATORS", x.shorten(0), 0);
        dueWord(x, 0, "ab");
        x = Edge.make("aBc;", "aB;");
        Edge.due("until no more than half stands anywhere", x.shorten(0), 1);
        dueWord(x, 0, "C");
        x = Edge.make("abcd;b4;", "aB3cda;");
        Edge.due("a CUT that makes another", x.shorten(0), 2);
        dueWord(x, 0, "a");
    }

    private static void shortenNumbers() {
        Edge.sentence("promise 23", "how many CUTS were done. BAD.");
        for (int w : NO_WORDS) {
            Edge.refused(EdgeShortening::some, "shorten(" + w + ")", y -> y.shorten(w), Edge.BAD);
        }
        Edge.changesNothing(EdgeShortening::some, "shorten(1)", y -> y.shorten(1), 0);
    }

    private static void trails() {
        Edge.sentence("promise 24", "Of the k-th CUT (from 0 on) that SHORTENING would do: its place, MEMBER, l, how many LETTERS are left. NONE: not so many.");
        PieceWords x = Edge.make("a;b;", Edge.SIXTY + "c;");
        int[] all = {0, 0, 1, 59};
        int[] last = {0, 2, 1, 0};
        for (int what = 0; what < 4; what++) {
            Edge.due("of the first, " + what, x.trail(0, 0, what), all[what]);
            Edge.due("of the 60th, " + what, x.trail(0, 59, what), last[what]);
            Edge.due("of the 61st, " + what, x.trail(0, 60, what), Edge.NONE);
            Edge.due("of the last that can be told, " + what, x.trail(0, Edge.HIGH, what), Edge.NONE);
            Edge.due("of a WORD without CUTS, " + what, x.trail(1, 0, what), Edge.NONE);
            Edge.due("of no LETTERS, " + what, x.trail(5, 0, what), Edge.NONE);
        }
        x.chooser(1);
        Edge.due("of the first by LAST", x.trail(0, 0, 0), 59);
        Edge.due("of the 60th by LAST", x.trail(0, 59, 0), 0);
        Edge.due("its MEMBER", x.trail(0, 59, 1), 0);
        Edge.dueRefusals(x, 0, 0, 0);
        Edge.due("without RELATORS", Edge.make("", "a;").trail(0, 0, 0), Edge.NONE);
        Edge.changesNothing(EdgeShortening::some, "trail(4, 0, 3)", y -> y.trail(4, 0, 3), 0);
        Edge.changesNothing(EdgeShortening::some, "trail(4, 1, 3)", y -> y.trail(4, 1, 3), Edge.NONE);
    }

    private static void trailNumbers() {
        Edge.sentence("promise 24", "BAD: k below 0, too.");
        for (int k : new int[] {-1, -2, Edge.LOW}) {
            Edge.refused(EdgeShortening::some, "trail(4, " + k + ", 0)", y -> y.trail(4, k, 0), Edge.BAD);
            Edge.refused(EdgeShortening::some, "trail(5, " + k + ", 0)", y -> y.trail(5, k, 0), Edge.BAD);
        }
        for (int what : new int[] {-1, 4, Edge.LOW, Edge.HIGH}) {
            Edge.refused(EdgeShortening::some, "trail(4, 0, " + what + ")", y -> y.trail(4, 0, what), Edge.BAD);
            Edge.refused(EdgeShortening::some, "trail(5, 9, " + what + ")", y -> y.trail(5, 9, what), Edge.BAD);
        }
        for (int w : NO_WORDS) {
            Edge.refused(EdgeShortening::some, "trail(" + w + ", 0, 0)", y -> y.trail(w, 0, 0), Edge.BAD);
        }
    }

    private static void nothings() {
        Edge.sentence("promise 25", "Whether SHORTENING would leave nothing: 1, 0.");
        PieceWords x = Edge.make("a;b;", Edge.SIXTY + "c;abab;cabC;");
        Edge.due("of 60", x.nothing(0), 1);
        Edge.due("one stays", x.nothing(1), 0);
        Edge.due("all goes", x.nothing(2), 1);
        Edge.due("what stands about it, too", x.nothing(3), 1);
        Edge.due("no LETTERS", x.nothing(5), 1);
        Edge.changesNothing(EdgeShortening::some, "nothing(4)", y -> y.nothing(4), 1);
        Edge.changesNothing(EdgeShortening::some, "nothing(0)", y -> y.nothing(0), 0);
        x = Edge.make("", "a;");
        Edge.due("no RELATORS, no LETTERS", x.nothing(5), 1);
        Edge.due("no RELATORS", x.nothing(0), 0);
    }

    private static void nothingGood() {
        Edge.sentence("promise 25", "NO: it is not GOOD by 6.");
        Edge.refused(EdgeShortening::notGood, "nothing(0)", y -> y.nothing(0), Edge.NO);
        Edge.refused(EdgeShortening::notGood, "nothing(5), no LETTERS", y -> y.nothing(5), Edge.NO);
        Edge.due("GOOD by 5", notGood().good(5), 1);
        Edge.due("GOOD by 6 alone", Edge.make("abcABCd;", "abcABCd;").nothing(0), 1);
        Edge.due("one that is not", Edge.make("a;cdcDCD;", "a;").nothing(0), Edge.NO);
        Edge.due("one that is not, first", Edge.make("cdcDCD;a;", "a;").nothing(0), Edge.NO);
    }

    private static void nothingNumbers() {
        Edge.sentence("promise 25", "BAD");
        for (int w : NO_WORDS) {
            Edge.refused(EdgeShortening::some, "nothing(" + w + ")", y -> y.nothing(w), Edge.BAD);
            Edge.refused(EdgeShortening::notGood, "nothing(" + w + "), not GOOD", y -> y.nothing(w), Edge.BAD);
        }
    }

    private static void same() {
        Edge.sentence("promise 26", "Whether a and the INVERSE of b behind it would be SHORTENED to nothing: 1, 0.");
        PieceWords x = Edge.make(Edge.TORUS, "abAB;dcDC;abAb;abABcdCD;");
        Edge.due("half and half", x.same(0, 1), 1);
        Edge.due("the other way", x.same(1, 0), 1);
        Edge.due("another", x.same(0, 2), 0);
        Edge.due("itself", x.same(2, 2), 1);
        Edge.due("nothing and no LETTERS", x.same(3, 5), 1);
        Edge.due("no LETTERS and nothing", x.same(5, 3), 1);
        Edge.due("no LETTERS twice", x.same(4, 5), 1);
        Edge.due("some and no LETTERS", x.same(0, 5), 0);
        x = Edge.make("", "a;b;");
        Edge.due("no RELATORS, itself", x.same(0, 0), 1);
        Edge.due("no RELATORS, another", x.same(0, 1), 0);
        Edge.changesNothing(EdgeShortening::some, "same(4, 5)", y -> y.same(4, 5), 1);
    }

    private static void sameOfSixty() {
        Edge.sentence("promise 26", "FULL: that has more than 60.");
        PieceWords x = Edge.make("", Edge.SIXTY + "a;b;a9a9a9a3;b9b9b9b3;b9b9b9b4;");
        Edge.due("60 and 60 that go", x.same(0, 0), 1);
        Edge.due("60 and 1", x.same(0, 1), Edge.FULL);
        Edge.due("1 and 60", x.same(1, 0), Edge.FULL);
        Edge.due("60 and 1 that goes", x.same(0, 2), 0);
        Edge.due("1 that goes and 60", x.same(2, 0), 0);
        Edge.due("30 and 30", x.same(3, 4), 0);
        Edge.due("30 and 31", x.same(3, 5), Edge.FULL);
        Edge.due("31 and 30", x.same(5, 3), Edge.FULL);
        Edge.dueRefusals(x, 0, 0, 4);
        x = Edge.make("a;b;", Edge.SIXTY + "a;");
        Edge.due("ahead of being SHORTENED", x.same(0, 1), Edge.FULL);
        Edge.refused(EdgeShortening::some, "same(1, 3)", y -> y.same(1, 3), Edge.FULL);
    }

    private static void sameNumbers() {
        Edge.sentence("promise 26", "BAD; NO: likewise");
        Edge.refused(EdgeShortening::notGood, "same(0, 0)", y -> y.same(0, 0), Edge.NO);
        Edge.refused(EdgeShortening::notGood, "same(1, 3), FULL, too", y -> y.same(1, 3), Edge.NO);
        for (int w : NO_WORDS) {
            Edge.refused(EdgeShortening::some, "same(" + w + ", 0)", y -> y.same(w, 0), Edge.BAD);
            Edge.refused(EdgeShortening::some, "same(0, " + w + ")", y -> y.same(0, w), Edge.BAD);
            Edge.refused(EdgeShortening::notGood, "same(" + w + ", 1), not GOOD", y -> y.same(w, 1), Edge.BAD);
            Edge.refused(EdgeShortening::notGood, "same(1, " + w + "), not GOOD", y -> y.same(1, w), Edge.BAD);
        }
    }

    private static void dueOrder(String relators, String word, int want) {
        Edge.due("order of " + word + " by '" + relators + "'", Edge.make(relators, word).order(0), want);
    }

    private static void orders() {
        Edge.sentence("promise 27", "The least n (1 .. 6) such that n times a would be SHORTENED to nothing; NONE");
        dueOrder("", "aA;", 1);
        dueOrder("", "a;", Edge.NONE);
        dueOrder("a;", "a;", 1);
        dueOrder("a;", "bA2B;", 1);
        for (int n = 1; n <= 9; n++) {
            dueOrder("a" + n + ";", "a;", n <= 6 ? n : Edge.NONE);
        }
        dueOrder("a6;", "a2;", 3);
        dueOrder("a6;", "a3;", 2);
        dueOrder("a6;", "a4;", 3);
        dueOrder("a6;", "a6;", 1);
        dueOrder("a9a3;", "a2;", 6);
        dueOrder("a9a5;", "a2;", Edge.NONE);
        dueOrder("a6;", "b;", Edge.NONE);
    }

    private static void ordersOfSixty() {
        Edge.sentence("promise 27", "NONE (also as soon as that has more than 60 LETTERS)");
        dueOrder("a5;", "a9a3;", 5);
        dueOrder("a5;", "a9a4;", Edge.NONE);
        dueOrder("a9a3;", "a9a;", 6);
        dueOrder("a4;", "a9a6;", 4);
        dueOrder("a4;", "a9a8;", Edge.NONE);
        dueOrder("a2;", "a9a9a9a2;", 2);
        dueOrder("a2;", "a9a9a9a4;", Edge.NONE);
        dueOrder("a2;", "a9a9a9a3;", 1);
        dueOrder("a4;", "a9a9a9a3;", 2);
        dueOrder("a3;", "a9a9a9a9a9a9a6;", 1);
        dueOrder("a7;", "a9a9a9a9a9a9a6;", Edge.NONE);
        dueOrder("a2;", "b9b9b9b2aB9B9B9B2;", 2);
        dueOrder("a2;", "b9b9b9a3B9B9B9;", 2);
        dueOrder("a2;", "b9b9b9ba3B9B9B9B;", Edge.NONE);
        PieceWords x = Edge.make("a7;", "a9a9a9a9a9a9a6;");
        x.order(0);
        Edge.dueRefusals(x, 0, 0, 0);
    }

    private static void orderNumbers() {
        Edge.sentence("promise 27", "BAD; NO: likewise.");
        Edge.refused(EdgeShortening::notGood, "order(0)", y -> y.order(0), Edge.NO);
        Edge.refused(EdgeShortening::notGood, "order(1), more than 60", y -> y.order(1), Edge.NO);
        Edge.refused(EdgeShortening::notGood, "order(5), no LETTERS", y -> y.order(5), Edge.NO);
        for (int w : NO_WORDS) {
            Edge.refused(EdgeShortening::some, "order(" + w + ")", y -> y.order(w), Edge.BAD);
            Edge.refused(EdgeShortening::notGood, "order(" + w + "), not GOOD", y -> y.order(w), Edge.BAD);
        }
        Edge.changesNothing(EdgeShortening::some, "order(1)", y -> y.order(1), Edge.NONE);
        Edge.changesNothing(EdgeShortening::some, "order(4)", y -> y.order(4), 1);
    }

    private static void dueTurned(String relators, String a, String b, int want) {
        PieceWords x = Edge.make(relators, a + b);
        Edge.due("turned of " + a + " into " + b + " by '" + relators + "'", x.turned(0, 1), want);
    }

    private static void turnedRings() {
        Edge.sentence("promise 28", "NO: .. or a ring has more than 8 LETTERS.");
        dueTurned("", "a8;", "a8;", 0);
        dueTurned("", "a9;", "a8;", Edge.NO);
        dueTurned("", "a8;", "a9;", Edge.NO);
        dueTurned("", "b9b9b8a8B9B9B8;", "a8;", 0);
        dueTurned("", "a8;", "b9b9b8a8B9B9B8;", 0);
        dueTurned("", "b9b9b7a9B9B9B7;", "a8;", Edge.NO);
        dueTurned("", "a8;", "b9b9b7a9B9B9B7;", Edge.NO);
        dueTurned("", "a9a;", "a9a;", Edge.NO);
        dueTurned("a;", "a9;", "a;", Edge.NO);
        dueTurned("a;", "a8;", "a;", 0);
    }

    private static void turnedEmptyRings() {
        Edge.sentence("promise 28", "(A ring without LETTERS has one TURN.)");
        dueTurned("", "aA;", "bB;", 0);
        dueTurned("", "aA;", "b;", Edge.NONE);
        dueTurned("", "b;", "aA;", Edge.NONE);
        dueTurned("a;", "aA;", "a;", 0);
        dueTurned("a;", "a;", "aA;", 0);
        dueTurned(Edge.TORUS, "aA;", "abABcdCD;", 0);
        dueTurned(Edge.TORUS, "abABcdCD;", "aA;", 0);
        dueTurned(Edge.TORUS, "aA;", "ab;", Edge.NONE);
    }

    private static void turnedByTurns() {
        Edge.sentence("promise 28", "for some TURN of a's ring (t rising): 100 t .., of the first such t");
        String ring = "aabbccdd";
        for (int t = 0; t < 8; t++) {
            dueTurned("", ring + ";", ring.substring(t) + ring.substring(0, t) + ";", 100 * t);
        }
        dueTurned("", "abab;", "baba;", 100);
        dueTurned("", "abab;", "abab;", 0);
        dueTurned("", "a;", "a;", 0);
        dueTurned("", "a;", "A;", Edge.NONE);
        dueTurned("", "ab;", "aB;", Edge.NONE);
        dueTurned("", "dabcD;", "Acaba;", 200);
    }

    private static void turnedByBeginnings() {
        Edge.sentence("promise 28", "some z (no LETTERS, then beginnings of 1, then of 2 LETTERS of MEMBERS) .. of the first such t, then z");
        dueTurned("", "ab;", "ba;", 100);
        dueTurned("a;", "D;", "bB;", Edge.NONE);
        dueTurned("a;b;c;", "D;", "bB;", Edge.NONE);
        dueTurned("a;", "bcD;", "bc;", Edge.NONE);
        dueTurned("c7;", "ab;", "ba;", 100);
        dueTurned("a7;", "ab;", "ba;", 1);
        dueTurned("A7;", "ab;", "ba;", 1);
        dueTurned("b7;", "ab;", "ba;", 1);
        dueTurned("(ab)7;", "ab;", "ab;", 0);
        dueTurned("", "abc;", "cab;", 200);
        dueTurned("(ab)7;", "abc;", "cab;", 2);
        dueTurned("(ab)7;c7;", "abc;", "cab;", 1);
        dueTurned("a7;b7;", "abc;", "cab;", 101);
        dueTurned("a7;", "abc;", "cab;", 200);
        dueTurned("", "abcd2;", "d2abc;", 300);
        dueTurned("(abcd)3;", "abcd2;", "d2abc;", 102);
        dueTurned("(abcd)3;", "abcab;", "ababc;", 2);
        dueTurned("BadcbADC;", "Bad;", "daB;", 1);
        dueTurned("BDaDDcdbdaacDC;", "BDaDD;", "CAADB;", 2);
        dueTurned("BDaDDcdbdaacDC;", "DaDDB;", "CAADB;", 402);
    }

    private static void turnedNumbers() {
        Edge.sentence("promise 28", "BAD; NO: likewise");
        Edge.refused(EdgeShortening::notGood, "turned(0, 0)", y -> y.turned(0, 0), Edge.NO);
        Edge.refused(EdgeShortening::notGood, "turned(5, 5), no LETTERS", y -> y.turned(5, 5), Edge.NO);
        Edge.refused(EdgeShortening::notGood, "turned(2, 0), a ring of 9", y -> y.turned(2, 0), Edge.NO);
        Edge.refused(EdgeShortening::some, "turned(2, 0), a ring of 9", y -> y.turned(2, 0), Edge.NO);
        Edge.refused(EdgeShortening::some, "turned(0, 1), a ring of 60", y -> y.turned(0, 1), Edge.NO);
        for (int w : NO_WORDS) {
            Edge.refused(EdgeShortening::some, "turned(" + w + ", 0)", y -> y.turned(w, 0), Edge.BAD);
            Edge.refused(EdgeShortening::some, "turned(0, " + w + ")", y -> y.turned(0, w), Edge.BAD);
            Edge.refused(EdgeShortening::some, "turned(2, " + w + "), a ring of 9", y -> y.turned(2, w), Edge.BAD);
            Edge.refused(EdgeShortening::notGood, "turned(" + w + ", 0), not GOOD", y -> y.turned(w, 0), Edge.BAD);
        }
        Edge.changesNothing(EdgeShortening::some, "turned(0, 0)", y -> y.turned(0, 0), 0);
        Edge.changesNothing(EdgeShortening::some, "turned(0, 3)", y -> y.turned(0, 3), Edge.NONE);
    }

    private static void countedNothings() {
        Edge.sentence("promise 29", "How many WORDS of n LETTERS (1 .. 4) that are REDUCED would be SHORTENED to nothing.");
        dueNothings("", 0, 0, 0, 0);
        dueNothings("a;", 2, 2, 2 + 12, 2 + 12 + 24 + 24);
        dueNothings("d;", 2, 2, 2 + 12, 2 + 12 + 24 + 24);
        dueNothings("a;b;c;", 6, 6 * 5, 6 * 5 * 5 + 12, 6 * 5 * 5 * 5 + 60 + 72 + 72);
        dueNothings("a2;", 0, 2, 0, 2 + 12);
        dueNothings("a3;", 0, 0, 2, 0);
        dueNothings("ab;", 0, 4, 0, 44);
        dueNothings("a4;", 0, 0, 0, 2);
        dueNothings("a5;", 0, 0, 0, 0);
        dueNothings("abcd;", 0, 0, 0, 8);
        dueNothings(Edge.TORUS, 0, 0, 0, 0);
    }

    private static void dueNothings(String relators, int... many) {
        PieceWords x = Edge.make(relators, "ab;");
        for (int n = 1; n <= 4; n++) {
            Edge.due("nothings(" + n + ") of '" + relators + "'", x.nothings(n), many[n - 1]);
        }
        Edge.due("told(7)", x.told(7), 2);
    }

    private static void countedNothingsNumbers() {
        Edge.sentence("promise 29", "BAD; NO: likewise.");
        for (int n : new int[] {0, 5, -1, Edge.LOW, Edge.HIGH}) {
            Edge.refused(EdgeShortening::some, "nothings(" + n + ")", y -> y.nothings(n), Edge.BAD);
            Edge.refused(EdgeShortening::notGood, "nothings(" + n + "), not GOOD", y -> y.nothings(n), Edge.BAD);
        }
        Edge.refused(EdgeShortening::notGood, "nothings(1)", y -> y.nothings(1), Edge.NO);
        Edge.refused(EdgeShortening::notGood, "nothings(4)", y -> y.nothings(4), Edge.NO);
        Edge.changesNothing(EdgeShortening::some, "nothings(4)", y -> y.nothings(4), 0);
    }
}
