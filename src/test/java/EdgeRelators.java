/** The boundary cases of RELATORS, MEMBERS and PIECES: part 1 of the terms, promises 7 to 11. */
public final class EdgeRelators {
    public static void main(String[] args) {
        relatorsOfOneAndFourteen();
        ends();
        membersInTheirRow();
        membersLikeEarlierOnes();
        mostMembers();
        pieces();
        piecesOfTheShorter();
        noPiece();
        piecesOfLikeRelators();
        relatorsOfBeforeAreGone();
        goodByEqualIsNot();
        goodNumbers();
        goodWithoutRelators();
        relatorNumbers();
        memberNumbers();
        alikeNumbers();
        rankPrimes();
        rankOfFewAndMany();
        rankCountsOpposites();
        Edge.end();
    }

    private static void duePieces(String relators, int... pieces) {
        PieceWords x = Edge.make(relators, "");
        Edge.due("told(4) of " + relators, x.told(4), pieces.length);
        for (int r = 0; r < pieces.length; r++) {
            Edge.due("relator(" + r + ", 1) of " + relators, x.relator(r, 1), pieces[r]);
        }
    }

    private static void relatorsOfOneAndFourteen() {
        Edge.sentence("terms 1", "RELATORS 0 .. 2, as they come: WORDS of 1 .. 14 LETTERS");
        PieceWords x = Edge.make("a;b9b5;D;", "");
        Edge.due("relator(0, 0)", x.relator(0, 0), 1);
        Edge.due("relator(1, 0)", x.relator(1, 0), 14);
        Edge.due("relator(2, 0)", x.relator(2, 0), 1);
        Edge.dueText("MEMBERS", Edge.members(x), "a A bbbbbbbbbbbbbb BBBBBBBBBBBBBB D d");
        x = Edge.make("abcdabcdabcABd;", "");
        Edge.due("relator(0, 0)", x.relator(0, 0), 14);
        Edge.due("member(13, -1)", x.member(13, Edge.NONE), 14);
        Edge.dueText("the last TURN", Edge.member(x, 13), "dabcdabcdabcAB");
        Edge.dueText("the INVERSE", Edge.member(x, 14), "DbaCBADCBADCBA");
        Edge.dueText("the INVERSE's last TURN", Edge.member(x, 27), "ADbaCBADCBADCB");
    }

    private static void ends() {
        Edge.sentence("terms 1", "whose first one is not the last one's OPPOSITE");
        Edge.dueText("no ends", Edge.members(Edge.make("aba;", "")), "aba baa aab ABA BAA AAB");
        Edge.dueText("ends", Edge.members(Edge.make("abA;", "")), "b B");
        Edge.dueText("ends the other way", Edge.members(Edge.make("Aba;", "")), "b B");
        Edge.dueText("ends twice", Edge.members(Edge.make("dAbcaD;", "")), "bc cb CB BC");
        Edge.dueText("ends that come by REDUCING", Edge.members(Edge.make("abcCdDA;", "")), "b B");
        Edge.dueText("like ends", Edge.members(Edge.make("ab2a;", "")),
            "abba bbaa baab aabb ABBA BBAA BAAB AABB");
    }

    private static void membersInTheirRow() {
        Edge.sentence("terms 1", "MEMBERS, 0 on: of each RELATOR, by numbers, all its TURNS, then all of its INVERSE");
        Edge.dueText("of one LETTER", Edge.members(Edge.make("C;", "")), "C c");
        Edge.dueText("of two", Edge.members(Edge.make("ab;", "")), "ab ba BA AB");
        Edge.dueText("of two RELATORS", Edge.members(Edge.make("aBc;d2a;", "")),
            "aBc Bca caB CbA bAC ACb dda dad add ADD DDA DAD");
        Edge.dueText("of none", Edge.members(new PieceWords()), "");
    }

    private static void membersLikeEarlierOnes() {
        Edge.sentence("terms 1", "one that is like an earlier MEMBER is left out");
        PieceWords x = Edge.make("a9a5;(ab)7;(abc)4;", "");
        Edge.due("of one LETTER 14 times", x.relator(0, 2), 2);
        Edge.due("of two 7 times", x.relator(1, 2), 4);
        Edge.due("of three 4 times", x.relator(2, 2), 6);
        Edge.due("told(5)", x.told(5), 12);
        x = Edge.make("ab;ba;BA;", "");
        Edge.dueText("TURNS and INVERSES of an earlier one", Edge.members(x), "ab ba BA AB");
        Edge.due("relator(0, 2)", x.relator(0, 2), 4);
        Edge.due("relator(1, 2)", x.relator(1, 2), 0);
        Edge.due("relator(2, 2)", x.relator(2, 2), 0);
        Edge.dueText("one that begins like it is not like it", Edge.members(Edge.make("a;a2;", "")), "a A aa AA");
        Edge.dueText("nor one that it begins like", Edge.members(Edge.make("a2;a;", "")), "aa AA a A");
        x = Edge.make("a;b;a;", "");
        Edge.due("the third like the first", x.relator(2, 2), 0);
        Edge.due("but it is one", x.told(4), 3);
        Edge.due("of its length", x.relator(2, 0), 1);
    }

    private static void mostMembers() {
        Edge.sentence("terms 1", "RELATORS 0 .. 2 .. of 1 .. 14 LETTERS .. MEMBERS, 0 on");
        PieceWords x = Edge.make("abcdabcdabcABd;bacdbacdbacBAd;cbadcbadcbaCBd;", "");
        Edge.due("told(5)", x.told(5), 84);
        Edge.due("member(83, -1)", x.member(83, Edge.NONE), 14);
        Edge.dueText("MEMBER 83", Edge.member(x, 83), "CDbcABCDABCDAB");
        Edge.due("member(84, -1)", x.member(84, Edge.NONE), Edge.BAD);
        Edge.due("alike(83, 83)", x.alike(83, 83), 14);
        Edge.due("relator(2, 2)", x.relator(2, 2), 28);
    }

    private static void pieces() {
        Edge.sentence("terms 1", "PIECE of a RELATOR: the greatest length of such of a MEMBER that is a TURN of it or its INVERSE and another");
        duePieces("ab2ab3ab4;", 6);
        duePieces("aab;", 1);
        duePieces("aabb;", 1);
        duePieces("abAB;", 1);
        duePieces("a3b;", 2);
        duePieces("a9a4b;", 12);
        duePieces("abc;abd;c9;", 2, 2, 1);
        duePieces("ab;cd;cb;", 1, 1, 1);
        duePieces("ab;c;d;", 0, 0, 0);
        duePieces("ab;CB;", 1, 1);
    }

    private static void piecesOfTheShorter() {
        Edge.sentence("terms 1", "what two unlike MEMBERS begin with alike, as far as they do (the shorter one at most)");
        duePieces("a;a2;", 1, 1);
        duePieces("a2;a;", 1, 1);
        duePieces("a2;a3;a9a5;", 2, 3, 3);
        duePieces("a;ab;", 1, 1);
        duePieces("A;ab;", 1, 1);
        duePieces("ab;(ab)7;", 2, 2);
    }

    private static void noPiece() {
        Edge.sentence("terms 1", "(0: none)");
        duePieces("a;", 0);
        duePieces("a9a5;", 0);
        duePieces("(ab)7;", 0);
        duePieces("abcd;", 0);
        duePieces("a;b;c;", 0, 0, 0);
        duePieces("a;bc;d9;", 0, 0, 0);
    }

    private static void piecesOfLikeRelators() {
        Edge.sentence("terms 1", "two unlike MEMBERS");
        duePieces("abc;abc;", 0, 0);
        duePieces("abc;cab;CBA;", 0, 0, 0);
        duePieces("abc;ad;bca;", 1, 1, 1);
        duePieces("aab;baa;", 1, 1);
    }

    private static void relatorsOfBeforeAreGone() {
        Edge.sentence("promise 4", "RELATORS become the WORDS of THE TEXT: nothing of earlier ones counts");
        PieceWords x = Edge.make("ab2ab3ab4;a;ba;", "abcd;b4;a4;");
        Edge.due("their PIECE", x.relator(0, 1), 6);
        Edge.due("their CUTS", x.cuts(1), 0);
        Edge.due("their CUTS", x.cuts(2), 4);
        Edge.relators(x, "cdcd;a2;");
        Edge.due("relator(0, 1)", x.relator(0, 1), 0);
        Edge.due("relator(0, 2)", x.relator(0, 2), 4);
        Edge.due("relator(1, 1)", x.relator(1, 1), 0);
        Edge.due("relator(1, 2)", x.relator(1, 2), 2);
        Edge.due("relator(2, 0)", x.relator(2, 0), Edge.BAD);
        Edge.due("told(5)", x.told(5), 6);
        Edge.due("GOOD again", x.good(9), 1);
        Edge.due("cuts(0)", x.cuts(0), 0);
        Edge.due("cuts(1)", x.cuts(1), 0);
        Edge.due("cuts(2)", x.cuts(2), 3);
        Edge.due("rank(7)", x.rank(7), 2);
        Edge.relators(x, "abcd;");
        Edge.due("longer ones than before", x.cuts(0), 2);
        Edge.due("and fewer", x.cuts(2), 0);
        Edge.due("rank(7)", x.rank(7), 1);
    }

    private static void goodByEqualIsNot() {
        Edge.sentence("terms 1", "GOOD by n, if n times each RELATOR's PIECE is below its length");
        PieceWords x = Edge.make(Edge.TORUS, "");
        Edge.due("7 below 8", x.good(7), 1);
        Edge.due("8 not below 8", x.good(8), 0);
        Edge.due("9 not below 8", x.good(9), 0);
        x = Edge.make("abcABC;", "");
        Edge.due("5 below 6", x.good(5), 1);
        Edge.due("6 not below 6", x.good(6), 0);
        x = Edge.make("abcABCd;", "");
        Edge.due("6 below 7", x.good(6), 1);
        Edge.due("7 not below 7", x.good(7), 0);
        x = Edge.make("a;a2;", "");
        Edge.due("1 not below 1, though 1 below 2", x.good(1), 0);
        x = Edge.make("a2;a;", "");
        Edge.due("1 below 2, but 1 not below 1", x.good(1), 0);
        x = Edge.make("a2;a3;", "");
        Edge.due("2 not below 2", x.good(1), 0);
        x = Edge.make("ab;ac;d;", "");
        Edge.due("1 below 2", x.good(1), 1);
        Edge.due("2 not below 2", x.good(2), 0);
        x = Edge.make("a9a5;", "");
        Edge.due("0 below 14", x.good(9), 1);
    }

    private static void goodNumbers() {
        Edge.sentence("promise 9", "GOOD by n (1 .. 9): 1, 0. BAD.");
        PieceWords x = Edge.make("a;", "");
        for (int n = 1; n <= 9; n++) {
            Edge.due("good(" + n + ")", x.good(n), 1);
        }
        for (int n : new int[] {0, 10, -1, Edge.LOW, Edge.HIGH}) {
            Edge.refused(() -> Edge.make(Edge.TORUS, "ab;"), "good(" + n + ")", y -> y.good(n), Edge.BAD);
        }
        Edge.changesNothing(() -> Edge.make(Edge.TORUS, "ab;"), "good(9)", y -> y.good(9), 0);
    }

    private static void goodWithoutRelators() {
        Edge.sentence("promise 9", "each RELATOR's PIECE: no RELATORS");
        PieceWords x = new PieceWords();
        Edge.due("good(1)", x.good(1), 1);
        Edge.due("good(9)", x.good(9), 1);
        Edge.due("good(10)", x.good(10), Edge.BAD);
    }

    private static void relatorNumbers() {
        Edge.sentence("promise 7", "How many LETTERS a RELATOR has (what 0), its PIECE (1), how many MEMBERS are its own first (2). BAD.");
        for (int r : new int[] {-1, 0, 1, 2, 3}) {
            Edge.refused(PieceWords::new, "relator(" + r + ", 0), no RELATORS", y -> y.relator(r, 0), Edge.BAD);
        }
        PieceWords x = Edge.make("abc;aab;d;", "");
        Edge.due("the last RELATOR", x.relator(2, 0), 1);
        Edge.due("the last what", x.relator(0, 2), 6);
        Edge.due("the PIECE", x.relator(0, 1), 2);
        for (int r : new int[] {-1, 3, Edge.LOW, Edge.HIGH}) {
            Edge.refused(() -> Edge.make("abc;aab;d;", "a;"), "relator(" + r + ", 0)", y -> y.relator(r, 0), Edge.BAD);
        }
        for (int r : new int[] {1, 2}) {
            Edge.refused(() -> Edge.make("abc;", "a;"), "relator(" + r + ", 0) of 1", y -> y.relator(r, 0), Edge.BAD);
        }
        Edge.refused(() -> Edge.make("abc;d;", "a;"), "relator(2, 0) of 2", y -> y.relator(2, 0), Edge.BAD);
        for (int what : new int[] {-1, 3, Edge.LOW, Edge.HIGH}) {
            Edge.refused(() -> Edge.make("abc;", "a;"), "relator(0, " + what + ")", y -> y.relator(0, what), Edge.BAD);
        }
    }

    private static void memberNumbers() {
        Edge.sentence("promise 8", "LETTER k of MEMBER m (k = NONE: how many it has); NONE: it has fewer. BAD.");
        for (int m : new int[] {-1, 0, 1}) {
            Edge.refused(PieceWords::new, "member(" + m + ", -1), no RELATORS", y -> y.member(m, -1), Edge.BAD);
            Edge.refused(PieceWords::new, "member(" + m + ", 0), no RELATORS", y -> y.member(m, 0), Edge.BAD);
        }
        PieceWords x = Edge.make("abD;c;", "");
        Edge.due("its first", x.member(0, 0), 0);
        Edge.due("its last", x.member(0, 2), 7);
        Edge.due("behind its last", x.member(0, 3), Edge.NONE);
        Edge.due("far behind", x.member(0, 14), Edge.NONE);
        Edge.due("farther", x.member(0, Edge.HIGH), Edge.NONE);
        Edge.due("how many", x.member(0, -1), 3);
        Edge.due("of the last MEMBER", x.member(7, -1), 1);
        Edge.due("of the last MEMBER", x.member(7, 0), 6);
        Edge.due("behind its only one", x.member(7, 1), Edge.NONE);
        Edge.dueRefusals(x, 0, 0, 0);
        for (int m : new int[] {-1, 8, 84, Edge.LOW, Edge.HIGH}) {
            Edge.refused(() -> Edge.make("abD;c;", "a;"), "member(" + m + ", 0)", y -> y.member(m, 0), Edge.BAD);
            Edge.refused(() -> Edge.make("abD;c;", "a;"), "member(" + m + ", -1)", y -> y.member(m, -1), Edge.BAD);
            Edge.refused(() -> Edge.make("abD;c;", "a;"), "member(" + m + ", 99)", y -> y.member(m, 99), Edge.BAD);
        }
        for (int k : new int[] {-2, -3, Edge.LOW}) {
            Edge.refused(() -> Edge.make("abD;c;", "a;"), "member(0, " + k + ")", y -> y.member(0, k), Edge.BAD);
        }
        x = Edge.make("a9a5;", "");
        Edge.due("the 14th", x.member(1, 13), 4);
        Edge.due("the 15th", x.member(1, 14), Edge.NONE);
        Edge.relators(x, "ab;");
        for (int k = 2; k < 15; k++) {
            Edge.due("of 14 that have gone, the " + k, x.member(0, k) + x.member(1, k), 2 * Edge.NONE);
        }
    }

    private static void alikeNumbers() {
        Edge.sentence("promise 10", "How long two MEMBERS begin alike. BAD.");
        Edge.refused(PieceWords::new, "alike(0, 0), no RELATORS", y -> y.alike(0, 0), Edge.BAD);
        PieceWords x = Edge.make("a9a5;a;a9a4b;", "");
        Edge.due("with itself, of 14", x.alike(0, 0), 14);
        Edge.due("with itself, of 1", x.alike(2, 2), 1);
        Edge.due("the shorter first", x.alike(2, 0), 1);
        Edge.due("the shorter last", x.alike(0, 2), 1);
        Edge.due("not at all", x.alike(0, 1), 0);
        Edge.due("all but the last", x.alike(0, 4), 13);
        Edge.due("the other way", x.alike(4, 0), 13);
        for (int m : new int[] {-1, 4, Edge.LOW, Edge.HIGH}) {
            Edge.refused(() -> Edge.make("a;b;", "c;"), "alike(" + m + ", 0)", y -> y.alike(m, 0), Edge.BAD);
            Edge.refused(() -> Edge.make("a;b;", "c;"), "alike(0, " + m + ")", y -> y.alike(0, m), Edge.BAD);
        }
        x = Edge.make("a;b;", "");
        Edge.due("the last MEMBER", x.alike(3, 3), 1);
    }

    private static void rankPrimes() {
        Edge.sentence("promise 11", "the rank by the prime p (2, 3, 5, 7). BAD.");
        for (int p : new int[] {2, 3, 5, 7}) {
            Edge.due("rank(" + p + ")", Edge.make("a;", "").rank(p), 1);
        }
        for (int p : new int[] {-7, -2, -1, 0, 1, 4, 6, 8, 9, 11, 13, Edge.LOW, Edge.HIGH}) {
            Edge.refused(() -> Edge.make("a;b;", "c;"), "rank(" + p + ")", y -> y.rank(p), Edge.BAD);
            Edge.refused(PieceWords::new, "rank(" + p + "), no RELATORS", y -> y.rank(p), Edge.BAD);
        }
    }

    private static void dueRanks(String relators, int... ranks) {
        PieceWords x = Edge.make(relators, "");
        int[] primes = {2, 3, 5, 7};
        for (int k = 0; k < 4; k++) {
            Edge.due("rank(" + primes[k] + ") of '" + relators + "'", x.rank(primes[k]), ranks[k]);
        }
    }

    private static void rankOfFewAndMany() {
        Edge.sentence("promise 11", "Of the matrix of how often each of a .. d is in each RELATOR, the rank");
        dueRanks("", 0, 0, 0, 0);
        dueRanks("a;", 1, 1, 1, 1);
        dueRanks("d;", 1, 1, 1, 1);
        dueRanks("a;b;c;", 3, 3, 3, 3);
        dueRanks("b;c;d;", 3, 3, 3, 3);
        dueRanks("a;a;a;", 1, 1, 1, 1);
        dueRanks("b;a;", 2, 2, 2, 2);
        dueRanks("c;b;a;", 3, 3, 3, 3);
        dueRanks("b2;ab;", 1, 2, 2, 2);
        dueRanks("d;c;a;", 3, 3, 3, 3);
        dueRanks("a2;", 0, 1, 1, 1);
        dueRanks("a9a5;", 0, 1, 1, 0);
        dueRanks("a9;", 1, 0, 1, 1);
        dueRanks("a9a;", 0, 1, 0, 1);
        dueRanks("a2b2c2;a3b3c3;a2d7;", 2, 2, 2, 2);
        dueRanks("a5b5;d7;c3;", 3, 2, 2, 2);
        dueRanks("ab;bc;ca;", 2, 3, 3, 3);
        dueRanks("abcd;ab2c3d4;ac;", 2, 3, 3, 3);
    }

    private static void rankCountsOpposites() {
        Edge.sentence("promise 11", "(OPPOSITES count less)");
        dueRanks("abAB;", 0, 0, 0, 0);
        dueRanks("A;", 1, 1, 1, 1);
        dueRanks("A7;", 1, 1, 1, 0);
        dueRanks("aB;Ab;", 1, 1, 1, 1);
        dueRanks("ab;aB;", 1, 2, 2, 2);
        dueRanks("ab;A2B2;", 1, 1, 1, 1);
        dueRanks("ab2;ab2;aB;", 2, 1, 2, 2);
        dueRanks("a3B;aB5;", 1, 2, 2, 1);
    }
}
