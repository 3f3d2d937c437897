/** "Refused, changing nothing but how often, the first of": calls for which more than one refusal fits. */
public final class EdgeRefusals {
    public static void main(String[] args) {
        badAheadOfFull();
        badAheadOfNo();
        noAheadOfFull();
        badAheadOfAFault();
        badAheadOfNone();
        oneRefusalIsCountedOnce();
        refusedBetweenOthers();
        refusedByLastArgument();
        Edge.end();
    }

    /** GOOD by 6; WORD 1 has 60 LETTERS, WORD 2 a ring of 9. */
    private static PieceWords good() {
        PieceWords x = Edge.make(Edge.TORUS, "ab;" + Edge.SIXTY + "c9;d;");
        x.chooser(2);
        return x;
    }

    private static PieceWords notGood() {
        PieceWords x = Edge.make("abAB;", "ab;" + Edge.SIXTY + "c9;d;");
        x.chooser(1);
        return x;
    }

    private static PieceWords bare() {
        return Edge.make("", "ab;" + Edge.SIXTY);
    }

    /** By SEED 4 five loops of it have 76 LETTERS. */
    private static PieceWords longRelator() {
        return Edge.make("a9b5;", "ab;c;");
    }

    private static PieceWords fullText() {
        PieceWords x = good();
        Edge.text(x, "cd;" + " ".repeat(97));
        return x;
    }

    private static PieceWords wrongText() {
        PieceWords x = good();
        Edge.text(x, "cd;e");
        return x;
    }

    private static void badAheadOfFull() {
        Edge.sentence("terms 2", "the first of: BAD -2 a number is not as told; .. FULL -4 a WORD would have more than 60 LETTERS");
        Edge.refused(EdgeRefusals::fullText, "type(128)", y -> y.type(128), Edge.BAD);
        Edge.refused(EdgeRefusals::fullText, "type(-1)", y -> y.type(-1), Edge.BAD);
        Edge.refused(EdgeRefusals::fullText, "type(127)", y -> y.type(127), Edge.FULL);
        Edge.refused(EdgeRefusals::good, "adds(1, 8)", y -> y.adds(1, 8), Edge.BAD);
        Edge.refused(EdgeRefusals::good, "adds(1, 7)", y -> y.adds(1, 7), Edge.FULL);
        Edge.refused(EdgeRefusals::good, "times(1, 1, 6)", y -> y.times(1, 1, 6), Edge.BAD);
        Edge.refused(EdgeRefusals::good, "times(1, 1, 5)", y -> y.times(1, 1, 5), Edge.FULL);
        Edge.refused(EdgeRefusals::good, "power(1, 10, 5)", y -> y.power(1, 10, 5), Edge.BAD);
        Edge.refused(EdgeRefusals::good, "power(1, 9, 6)", y -> y.power(1, 9, 6), Edge.BAD);
        Edge.refused(EdgeRefusals::good, "power(1, 9, 5)", y -> y.power(1, 9, 5), Edge.FULL);
        Edge.refused(EdgeRefusals::good, "same(1, 6)", y -> y.same(1, 6), Edge.BAD);
        Edge.refused(EdgeRefusals::good, "same(1, 3)", y -> y.same(1, 3), Edge.FULL);
        Edge.refused(EdgeRefusals::longRelator, "loops(4, 5, 6)", y -> y.loops(4, 5, 6), Edge.BAD);
        Edge.refused(EdgeRefusals::longRelator, "loops(4, 7, 5)", y -> y.loops(4, 7, 5), Edge.BAD);
        Edge.refused(EdgeRefusals::longRelator, "loops(4, 5, 5)", y -> y.loops(4, 5, 5), Edge.FULL);
    }

    private static void badAheadOfNo() {
        Edge.sentence("terms 2", "the first of: BAD -2 a number is not as told; NO -3 as told");
        Edge.refused(EdgeRefusals::good, "turn(0, 60, 5)", y -> y.turn(0, 60, 5), Edge.BAD);
        Edge.refused(EdgeRefusals::good, "turn(0, 59, 6)", y -> y.turn(0, 59, 6), Edge.BAD);
        Edge.refused(EdgeRefusals::good, "turn(0, 59, 5)", y -> y.turn(0, 59, 5), Edge.NO);
        Edge.refused(EdgeRefusals::notGood, "nothing(6)", y -> y.nothing(6), Edge.BAD);
        Edge.refused(EdgeRefusals::notGood, "nothing(5)", y -> y.nothing(5), Edge.NO);
        Edge.refused(EdgeRefusals::notGood, "same(0, 6)", y -> y.same(0, 6), Edge.BAD);
        Edge.refused(EdgeRefusals::notGood, "same(-1, 0)", y -> y.same(-1, 0), Edge.BAD);
        Edge.refused(EdgeRefusals::notGood, "same(0, 0)", y -> y.same(0, 0), Edge.NO);
        Edge.refused(EdgeRefusals::notGood, "order(6)", y -> y.order(6), Edge.BAD);
        Edge.refused(EdgeRefusals::notGood, "order(0)", y -> y.order(0), Edge.NO);
        Edge.refused(EdgeRefusals::notGood, "turned(0, 6)", y -> y.turned(0, 6), Edge.BAD);
        Edge.refused(EdgeRefusals::notGood, "turned(0, 0)", y -> y.turned(0, 0), Edge.NO);
        Edge.refused(EdgeRefusals::good, "turned(2, 6)", y -> y.turned(2, 6), Edge.BAD);
        Edge.refused(EdgeRefusals::good, "turned(6, 2)", y -> y.turned(6, 2), Edge.BAD);
        Edge.refused(EdgeRefusals::good, "turned(2, 0)", y -> y.turned(2, 0), Edge.NO);
        Edge.refused(EdgeRefusals::notGood, "nothings(5)", y -> y.nothings(5), Edge.BAD);
        Edge.refused(EdgeRefusals::notGood, "nothings(0)", y -> y.nothings(0), Edge.BAD);
        Edge.refused(EdgeRefusals::notGood, "nothings(4)", y -> y.nothings(4), Edge.NO);
        Edge.refused(EdgeRefusals::bare, "loops(-1, 0, 0)", y -> y.loops(-1, 0, 0), Edge.BAD);
        Edge.refused(EdgeRefusals::bare, "loops(0, 7, 0)", y -> y.loops(0, 7, 0), Edge.BAD);
        Edge.refused(EdgeRefusals::bare, "loops(0, 0, 6)", y -> y.loops(0, 0, 6), Edge.BAD);
        Edge.refused(EdgeRefusals::bare, "loops(0, 0, 0)", y -> y.loops(0, 0, 0), Edge.NO);
        Edge.refused(EdgeRefusals::bare, "cut(6)", y -> y.cut(6), Edge.BAD);
        Edge.refused(EdgeRefusals::bare, "cut(0)", y -> y.cut(0), Edge.NO);
    }

    private static void noAheadOfFull() {
        Edge.sentence("terms 2", "the first of: .. NO -3 as told; FULL -4");
        Edge.refused(EdgeRefusals::notGood, "same(1, 3)", y -> y.same(1, 3), Edge.NO);
        Edge.refused(EdgeRefusals::notGood, "same(1, 6)", y -> y.same(1, 6), Edge.BAD);
        Edge.refused(EdgeRefusals::notGood, "order(1)", y -> y.order(1), Edge.NO);
        Edge.changesNothing(EdgeRefusals::good, "order(1)", y -> y.order(1), Edge.NONE);
    }

    private static void badAheadOfAFault() {
        Edge.sentence("promise 5", "BAD. -10 less the FAULT");
        Edge.refused(EdgeRefusals::wrongText, "words(6)", y -> y.words(6), Edge.BAD);
        Edge.refused(EdgeRefusals::wrongText, "words(-1)", y -> y.words(-1), Edge.BAD);
        Edge.changesNothing(EdgeRefusals::wrongText, "words(5)", y -> y.words(5), -13);
        Edge.changesNothing(EdgeRefusals::wrongText, "relators()", PieceWords::relators, -13);
    }

    private static void badAheadOfNone() {
        Edge.sentence("terms 2", "BAD -2 a number is not as told: where NONE would fit, too");
        Edge.refused(EdgeRefusals::good, "letter(6, 60)", y -> y.letter(6, 60), Edge.BAD);
        Edge.refused(EdgeRefusals::good, "member(16, 14)", y -> y.member(16, 14), Edge.BAD);
        Edge.refused(EdgeRefusals::good, "trail(6, 60, 0)", y -> y.trail(6, 60, 0), Edge.BAD);
        Edge.refused(EdgeRefusals::good, "trail(0, 60, 4)", y -> y.trail(0, 60, 4), Edge.BAD);
        Edge.changesNothing(EdgeRefusals::good, "letter(5, 60)", y -> y.letter(5, 60), Edge.NONE);
        Edge.changesNothing(EdgeRefusals::good, "member(15, 14)", y -> y.member(15, 14), Edge.NONE);
        Edge.changesNothing(EdgeRefusals::good, "trail(0, 60, 3)", y -> y.trail(0, 60, 3), Edge.NONE);
    }

    private static void oneRefusalIsCountedOnce() {
        Edge.sentence("terms 2", "Refused, changing nothing but how often, the first of");
        Edge.refused(EdgeRefusals::good, "times(-1, 6, 7)", y -> y.times(-1, 6, 7), Edge.BAD);
        Edge.refused(EdgeRefusals::good, "power(6, 10, 6)", y -> y.power(6, 10, 6), Edge.BAD);
        Edge.refused(EdgeRefusals::good, "turn(6, 60, 6)", y -> y.turn(6, 60, 6), Edge.BAD);
        Edge.refused(EdgeRefusals::good, "trail(6, -1, 4)", y -> y.trail(6, -1, 4), Edge.BAD);
        Edge.refused(EdgeRefusals::good, "draw(-1, 61, 6)", y -> y.draw(-1, 61, 6), Edge.BAD);
        Edge.refused(EdgeRefusals::good, "loops(-1, 7, 6)", y -> y.loops(-1, 7, 6), Edge.BAD);
        Edge.refused(EdgeRefusals::good, "relator(3, 3)", y -> y.relator(3, 3), Edge.BAD);
        Edge.refused(EdgeRefusals::good, "member(-1, -2)", y -> y.member(-1, -2), Edge.BAD);
        Edge.refused(EdgeRefusals::good, "alike(-1, 16)", y -> y.alike(-1, 16), Edge.BAD);
        Edge.refused(EdgeRefusals::good, "letter(6, -1)", y -> y.letter(6, -1), Edge.BAD);
        Edge.refused(EdgeRefusals::good, "adds(6, 8)", y -> y.adds(6, 8), Edge.BAD);
        Edge.refused(EdgeRefusals::good, "sum(6, 4)", y -> y.sum(6, 4), Edge.BAD);
    }

    /** What a refused call made on its way must not be seen by the calls behind it. */
    private static void refusedBetweenOthers() {
        Edge.sentence("terms 2", "changing nothing but how often: what calls behind it answer");
        PieceWords without = good();
        PieceWords x = good();
        x.times(1, 1, 0);
        x.power(1, -9, 1);
        x.turned(2, 0);
        x.same(1, 3);
        x.turn(0, 2, 1);
        x.cut(0);
        x.type(128);
        for (int w = 0; w < 6; w++) {
            Edge.dueText("WORD " + w, Edge.word(x, w), Edge.word(without, w));
        }
        Edge.due("cuts(1)", x.cuts(1), without.cuts(1));
        Edge.due("turned(0, 3)", x.turned(0, 3), without.turned(0, 3));
        Edge.due("adds(0, 2)", x.adds(0, 2), 3);
        Edge.dueText("WORD 0", Edge.word(x, 0), "abc");
        Edge.due("words(5)", x.words(5), without.words(5));
        Edge.dueRefusals(x, 1, 3, 3);
    }

    private static void refusedByLastArgument() {
        Edge.sentence("terms 2", "BAD -2 a number is not as told: the WORD that should become something");
        for (int w : new int[] {-1, 6, 7, Edge.LOW, Edge.HIGH}) {
            Edge.refused(EdgeRefusals::good, "times(0, 0, " + w + ")", y -> y.times(0, 0, w), Edge.BAD);
            Edge.refused(EdgeRefusals::good, "inverse(0, " + w + ")", y -> y.inverse(0, w), Edge.BAD);
            Edge.refused(EdgeRefusals::good, "power(0, 2, " + w + ")", y -> y.power(0, 2, w), Edge.BAD);
            Edge.refused(EdgeRefusals::good, "ring(0, " + w + ")", y -> y.ring(0, w), Edge.BAD);
            Edge.refused(EdgeRefusals::good, "turn(0, 1, " + w + ")", y -> y.turn(0, 1, w), Edge.BAD);
            Edge.refused(EdgeRefusals::good, "draw(0, 6, " + w + ")", y -> y.draw(0, 6, w), Edge.BAD);
            Edge.refused(EdgeRefusals::good, "loops(0, 1, " + w + ")", y -> y.loops(0, 1, w), Edge.BAD);
        }
    }
}
