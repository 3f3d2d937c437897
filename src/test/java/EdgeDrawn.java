import java.util.ArrayList;
import java.util.List;

/** The boundary cases of a new object, of DRAWS, told and digest: promises 1 and 30 to 33. */
public final class EdgeDrawn {
    private static final int[] NO_WORDS = {-1, 6, Edge.LOW, Edge.HIGH};
    private static final int[] NO_SEEDS = {-1, 1000000, Edge.LOW, Edge.HIGH};

    public static void main(String[] args) {
        newObject();
        newObjectCalls();
        manyObjects();
        drawsGoOn();
        drawnReduced();
        drawNumbers();
        loopsOfMembers();
        loopsOfFewAndMany();
        loopsWithoutRelators();
        loopsOfSixty();
        loopsNumbers();
        toldNumbers();
        toldRefusals();
        toldStates();
        digestOfNew();
        digestInItsRow();
        digestGoesRound();
        lastCalls();
        Edge.end();
    }

    private static PieceWords some() {
        PieceWords x = Edge.make("a9b5;", "abc;d;a9a9a9a9a9a9a6;B;");
        x.chooser(3);
        return x;
    }

    private static void newObject() {
        Edge.sentence("promise 1", "As told; no RELATORS.");
        PieceWords x = new PieceWords();
        for (int what = 0; what < 8; what++) {
            Edge.due("told(" + what + ")", x.told(what), 0);
        }
        for (int w = 0; w < 6; w++) {
            Edge.due("length(" + w + ")", x.length(w), 0);
        }
        Edge.due("THE CHOOSER's KIND", x.chooser(0), 0);
        Edge.due("THE TEXT", x.clear(), 0);
    }

    private static void newObjectCalls() {
        Edge.sentence("promise 1", "no RELATORS, WORDS without LETTERS, an empty TEXT: each call");
        PieceWords x = new PieceWords();
        Edge.due("relators()", x.relators(), -10);
        Edge.due("words(0)", x.words(0), -10);
        Edge.due("relator(0, 0)", x.relator(0, 0), Edge.BAD);
        Edge.due("member(0, 0)", x.member(0, 0), Edge.BAD);
        Edge.due("alike(0, 0)", x.alike(0, 0), Edge.BAD);
        Edge.due("good(9)", x.good(9), 1);
        Edge.due("rank(7)", x.rank(7), 0);
        Edge.due("letter(0, 0)", x.letter(0, 0), Edge.NONE);
        Edge.due("times(0, 1, 2)", x.times(0, 1, 2), 0);
        Edge.due("inverse(0, 1)", x.inverse(0, 1), 0);
        Edge.due("power(0, 9, 1)", x.power(0, 9, 1), 0);
        Edge.due("ring(0, 1)", x.ring(0, 1), 0);
        Edge.due("turn(0, 0, 1)", x.turn(0, 0, 1), Edge.NO);
        Edge.due("sum(0, 0)", x.sum(0, 0), 0);
        Edge.due("cuts(0)", x.cuts(0), 0);
        Edge.due("cut(0)", x.cut(0), Edge.NO);
        Edge.due("shorten(0)", x.shorten(0), 0);
        Edge.due("trail(0, 0, 0)", x.trail(0, 0, 0), Edge.NONE);
        Edge.due("nothing(0)", x.nothing(0), 1);
        Edge.due("same(0, 1)", x.same(0, 1), 1);
        Edge.due("order(0)", x.order(0), 1);
        Edge.due("turned(0, 1)", x.turned(0, 1), 0);
        Edge.due("nothings(4)", x.nothings(4), 0);
        Edge.due("draw(0, 0, 0)", x.draw(0, 0, 0), 0);
        Edge.due("loops(0, 0, 0)", x.loops(0, 0, 0), Edge.NO);
        Edge.dueRefusals(x, 3, 3, 0);
    }

    private static void manyObjects() {
        Edge.sentence("promise 1", "As told: whatever became of other objects");
        PieceWords other = some();
        other.type(-1);
        PieceWords x = new PieceWords();
        Edge.due("told(0)", x.told(0), 0);
        Edge.due("told(4)", x.told(4), 0);
        Edge.due("told(6)", x.told(6), 0);
        x.adds(0, 3);
        Edge.relators(x, "d;");
        Edge.dueText("WORD 0 of the other", Edge.word(other, 0), "abc");
        Edge.due("told(5) of the other", other.told(5), 28);
    }

    private static void drawsGoOn() {
        Edge.sentence("terms 2", "X is SEED at first; each time, ahead, X becomes X times 1103515245 and 12345, by 2147483648 what is left over");
        // 12345 a, 1406932606 A, 654583775 A, 1449466924 B, 229283573 c, 1109335178 D
        String[] drawn = {"", "a", "", "A", "AB", "ABc", "ABcD"};
        for (int n = 0; n < drawn.length; n++) {
            PieceWords x = new PieceWords();
            Edge.due("draw(0, " + n + ", 0)", x.draw(0, n, 0), drawn[n].length());
            Edge.dueText("WORD 0", Edge.word(x, 0), drawn[n]);
        }
        PieceWords x = new PieceWords();
        Edge.due("the last SEED", x.draw(999999, 60, 5), 54);
        Edge.dueText("WORD 5", Edge.word(x, 5), "aCDDCBDbDbcdBcBAdAcdADccbcAcacAcAAcbcadCAADAdaBBDDDaCa");
        Edge.due("a SEED by which none go", x.draw(2904, 60, 0), 60);
        Edge.due("the same again", x.draw(0, 6, 1), 4);
        Edge.dueText("each call begins with its SEED", Edge.word(x, 1), "ABcD");
    }

    private static void drawnReduced() {
        Edge.sentence("promise 30", "WORD to becomes n times (0 .. 60) by DRAWS a LETTER .. put behind it, REDUCED each time: how many.");
        PieceWords x = some();
        Edge.due("0 times", x.draw(5, 0, 2), 0);
        Edge.due("length(2)", x.length(2), 0);
        Edge.due("what it had is gone", x.draw(0, 1, 0), 1);
        Edge.dueText("WORD 0", Edge.word(x, 0), "a");
        Edge.due("both go", x.draw(0, 2, 0), 0);
        Edge.due("without RELATORS", new PieceWords().draw(0, 1, 5), 1);
    }

    private static void drawNumbers() {
        Edge.sentence("promise 30", "(SEED 0 .. 999999) .. (0 .. 60) .. BAD.");
        for (int seed : NO_SEEDS) {
            Edge.refused(EdgeDrawn::some, "draw(" + seed + ", 1, 0)", y -> y.draw(seed, 1, 0), Edge.BAD);
            Edge.refused(EdgeDrawn::some, "draw(" + seed + ", 0, 0)", y -> y.draw(seed, 0, 0), Edge.BAD);
        }
        for (int n : new int[] {-1, 61, Edge.LOW, Edge.HIGH}) {
            Edge.refused(EdgeDrawn::some, "draw(0, " + n + ", 0)", y -> y.draw(0, n, 0), Edge.BAD);
        }
        for (int w : NO_WORDS) {
            Edge.refused(EdgeDrawn::some, "draw(0, 1, " + w + ")", y -> y.draw(0, 1, w), Edge.BAD);
            Edge.refused(EdgeDrawn::some, "draw(0, 0, " + w + ")", y -> y.draw(0, 0, w), Edge.BAD);
        }
    }

    private static void loopsOfMembers() {
        Edge.sentence("promise 31", "a MEMBER, X by 65536 (cut), by how many there are left over, with a LETTER X by 1024 (cut), by 8 left over, ahead and its OPPOSITE behind");
        PieceWords x = Edge.make("cd;", "");
        Edge.due("loops(0, 1, 0)", x.loops(0, 1, 0), 4);
        Edge.dueText("WORD 0", Edge.word(x, 0), "Acda");
        Edge.due("loops(0, 6, 0)", x.loops(0, 6, 0), 20);
        Edge.dueText("WORD 0", Edge.word(x, 0), "AcdaBcdbbcdBcdBDCbDC");
        x = Edge.make("a;", "");
        Edge.due("a LETTER that goes", x.loops(0, 1, 0), 1);
        Edge.dueText("WORD 0", Edge.word(x, 0), "a");
        Edge.due("loops(1, 6, 0)", x.loops(1, 6, 0), 16);
        Edge.dueText("WORD 0", Edge.word(x, 0), "DadabABCAcDAdBAb");
        x = Edge.make("ab;c;", "");
        Edge.due("the last SEED", x.loops(999999, 6, 5), 11);
        Edge.dueText("WORD 5", Edge.word(x, 5), "BcbcBACabab");
        x = Edge.make("abcdabcdabcABd;bacdbacdbacBAd;cbadcbadcbaCBd;", "");
        Edge.due("of 84 MEMBERS", x.loops(7, 1, 0), 16);
        Edge.dueText("WORD 0", Edge.word(x, 0), "BDABCDABCDbcABCb");
    }

    private static void loopsOfFewAndMany() {
        Edge.sentence("promise 31", "WORD to becomes n times (0 .. 6)");
        PieceWords x = Edge.make("a;", "abc;");
        Edge.due("0 times", x.loops(0, 0, 0), 0);
        Edge.due("length(0)", x.length(0), 0);
        Edge.due("what it had is gone", x.loops(2, 1, 0), 3);
        Edge.dueText("WORD 0", Edge.word(x, 0), "daD");
        Edge.due("6 times", x.loops(2, 6, 0), 16);
        Edge.due("7 times", x.loops(2, 7, 0), Edge.BAD);
        Edge.dueText("WORD 0", Edge.word(x, 0), "daDcACACacbABdAD");
    }

    private static void loopsWithoutRelators() {
        Edge.sentence("promise 31", "NO: no RELATORS");
        Edge.refused(() -> Edge.make("", "ab;"), "loops(0, 0, 0)", y -> y.loops(0, 0, 0), Edge.NO);
        Edge.refused(() -> Edge.make("", "ab;"), "loops(0, 6, 0)", y -> y.loops(0, 6, 0), Edge.NO);
        PieceWords x = Edge.make("a;", "");
        Edge.due("RELATORS that are not GOOD do", Edge.relators(x, "a;a2;"), 2);
        Edge.due("loops(0, 0, 0)", x.loops(0, 0, 0), 0);
    }

    private static void loopsOfSixty() {
        Edge.sentence("promise 31", "FULL: as soon as it has more than 60.");
        // 16, 30, 46, 60, 76
        Edge.due("just 60", some().loops(4, 4, 1), 60);
        Edge.refused(EdgeDrawn::some, "loops(4, 5, 1)", y -> y.loops(4, 5, 1), Edge.FULL);
        // 60 at last, though 61 stand there ahead of the last OPPOSITE
        Edge.due("60, being REDUCED", some().loops(58, 4, 1), 60);
        Edge.due("60, being REDUCED", some().loops(92, 4, 1), 60);
        // 16, 32, 48, 60, 60, 72
        Edge.due("60 twice", some().loops(79, 5, 1), 60);
        Edge.due("then more", some().loops(79, 6, 1), Edge.FULL);
        // 16, 32, 44, 60, 76, 60
        Edge.due("60 ahead", some().loops(152, 4, 1), 60);
        Edge.due("more than 60", some().loops(152, 5, 1), Edge.FULL);
        Edge.refused(EdgeDrawn::some, "loops(152, 6, 1), 60 later", y -> y.loops(152, 6, 1), Edge.FULL);
        PieceWords x = Edge.make("a9b2;", "");
        Edge.due("61", x.loops(0, 5, 0), Edge.FULL);
        // 13, 26, 31, 34, 47, 60
        Edge.due("60 at the 6th", x.loops(6, 6, 0), 60);
        // 11, 24, 35, 48, 61, 58
        Edge.due("48", x.loops(152, 4, 0), 48);
        Edge.due("61", x.loops(152, 5, 0), Edge.FULL);
        Edge.due("61, 58 later", x.loops(152, 6, 0), Edge.FULL);
        Edge.dueRefusals(x, 0, 0, 3);
    }

    private static void loopsNumbers() {
        Edge.sentence("promise 31", "(SEED 0 .. 999999) .. (0 .. 6) .. BAD");
        for (int seed : NO_SEEDS) {
            Edge.refused(EdgeDrawn::some, "loops(" + seed + ", 1, 0)", y -> y.loops(seed, 1, 0), Edge.BAD);
            Edge.refused(PieceWords::new, "loops(" + seed + ", 1, 0), no RELATORS", y -> y.loops(seed, 1, 0), Edge.BAD);
        }
        for (int n : new int[] {-1, 7, Edge.LOW, Edge.HIGH}) {
            Edge.refused(EdgeDrawn::some, "loops(0, " + n + ", 0)", y -> y.loops(0, n, 0), Edge.BAD);
            Edge.refused(PieceWords::new, "loops(0, " + n + ", 0), no RELATORS", y -> y.loops(0, n, 0), Edge.BAD);
        }
        for (int w : NO_WORDS) {
            Edge.refused(EdgeDrawn::some, "loops(0, 1, " + w + ")", y -> y.loops(0, 1, w), Edge.BAD);
            Edge.refused(EdgeDrawn::some, "loops(4, 5, " + w + "), FULL, too", y -> y.loops(4, 5, w), Edge.BAD);
            Edge.refused(PieceWords::new, "loops(0, 1, " + w + "), no RELATORS", y -> y.loops(0, 1, w), Edge.BAD);
        }
    }

    private static void toldNumbers() {
        Edge.sentence("promise 32", "BAD (0) .. LETTERS of all WORDS (7). BAD.");
        for (int what : new int[] {-1, 8, Edge.LOW, Edge.HIGH}) {
            Edge.refused(EdgeDrawn::some, "told(" + what + ")", y -> y.told(what), Edge.BAD);
        }
        for (int what = 0; what < 8; what++) {
            int asked = what;
            int[] all = {0, 0, 0, 23, 1, 28, 3, 65};
            Edge.changesNothing(EdgeDrawn::some, "told(" + what + ")", y -> y.told(asked), all[what]);
        }
    }

    private static void toldRefusals() {
        Edge.sentence("promise 32", "How often refused: BAD (0), NO (1), FULL (2)");
        PieceWords x = Edge.make("", Edge.SIXTY);
        for (int k = 1; k <= 5; k++) {
            x.length(6);
            x.turn(1, 0, 0);
            x.turn(1, 0, 0);
            x.adds(0, 0);
            x.adds(0, 0);
            x.adds(0, 0);
            Edge.dueRefusals(x, k, 2 * k, 3 * k);
        }
        x.relators();
        x.words(5);
        Edge.text(x, "e");
        x.relators();
        x.words(5);
        x.trail(0, 0, 0);
        x.letter(1, 0);
        Edge.dueRefusals(x, 5, 10, 15);
    }

    private static void toldStates() {
        Edge.sentence("promise 32", "bytes of THE TEXT (3), RELATORS (4), MEMBERS (5), THE CHOOSER's KIND (6), LETTERS of all WORDS (7)");
        PieceWords x = new PieceWords();
        Edge.text(x, " ".repeat(100));
        Edge.due("told(3)", x.told(3), 100);
        Edge.due("relators()", Edge.relators(x, "a;b;cd;"), 3);
        Edge.due("told(3)", x.told(3), 7);
        Edge.due("told(4)", x.told(4), 3);
        Edge.due("told(5)", x.told(5), 8);
        x.chooser(4);
        Edge.due("told(6)", x.told(6), 4);
        Edge.words(x, 0, Edge.SIXTY);
        for (int w = 1; w < 6; w++) {
            x.times(0, 5, w);
            Edge.due("told(7)", x.told(7), w == 5 ? 360 : 60 * (w + 1));
        }
    }

    /** The digest of the numbers told, one behind the other. */
    private static long digestOf(List<Integer> values) {
        long h = 1907;
        for (int v : values) {
            h = 31 * h + v;
        }
        return h;
    }

    private static void digestOfNew() {
        Edge.sentence("promise 33", "h = 1907; then h = 31 h + v for each v: no RELATORS, no LETTERS");
        List<Integer> zeros = new ArrayList<>();
        for (int k = 0; k < 14; k++) {
            zeros.add(0);
        }
        Edge.due("digest()", new PieceWords().digest(), digestOf(zeros));
        PieceWords x = new PieceWords();
        x.digest();
        Edge.due("it counts nothing", x.digest(), digestOf(zeros));
    }

    private static void digestInItsRow() {
        Edge.sentence("promise 33", "told(0) to told(7); of each RELATOR how many LETTERS, these; of each WORD likewise.");
        PieceWords x = Edge.make("aB;D;", "C;dD;ab;");
        x.chooser(2);
        x.told(8);
        x.cut(1);
        x.cut(1);
        Edge.words(x, 5, Edge.SIXTY);
        x.adds(5, 0);
        x.adds(5, 0);
        x.adds(5, 0);
        List<Integer> values = new ArrayList<>(List.of(1, 2, 3, 8, 2, 6, 2, 63));
        values.addAll(List.of(2, 0, 5, 1, 7));
        values.addAll(List.of(1, 6, 0, 2, 0, 1, 0, 0, 60));
        for (int k = 0; k < 60; k++) {
            values.add(k % 15 < 9 ? 0 : 1);
        }
        Edge.due("digest()", x.digest(), digestOf(values));
    }

    private static void digestGoesRound() {
        Edge.sentence("promise 33", "h = 31 h + v (a long, that goes round)");
        PieceWords x = Edge.make("", "D;");
        List<Integer> values = new ArrayList<>(List.of(0, 0, 0, 2, 0, 0, 0, 1, 1, 7, 0, 0, 0, 0, 0));
        Edge.due("digest()", x.digest(), digestOf(values));
        for (int w = 0; w < 6; w++) {
            Edge.words(x, w, "D9D9D9D9D9D9D6;");
        }
        values = new ArrayList<>(List.of(0, 0, 0, 15, 0, 0, 0, 360));
        for (int w = 0; w < 6; w++) {
            values.add(60);
            for (int k = 0; k < 60; k++) {
                values.add(7);
            }
        }
        Edge.due("digest()", x.digest(), digestOf(values));
    }

    private static void lastCalls() {
        Edge.sentence("what it is", "An object is used for at most 512 calls after it has been made");
        PieceWords x = new PieceWords();
        for (int k = 0; k < 510; k++) {
            Edge.due("the call " + (k + 1), x.type(-1), Edge.BAD);
        }
        Edge.due("the 511th call", x.adds(0, 0), 1);
        Edge.due("the 512th call", x.told(0), 510);
    }
}
