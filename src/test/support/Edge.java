import java.util.function.Supplier;
import java.util.function.ToLongFunction;

/** What the tests of boundary cases share; each test says the sentence of the document that it holds the class to. */
final class Edge {
    static final int NONE = -1, BAD = -2, NO = -3, FULL = -4;
    static final int LOW = Integer.MIN_VALUE, HIGH = Integer.MAX_VALUE;
    /** Its WORD has 60 LETTERS, none of which go. */
    static final String SIXTY = "(a9b6)4;";
    /** One RELATOR of 8 LETTERS whose PIECE is 1. */
    static final String TORUS = "abABcdCD;";

    private static int wrong = 0;
    private static int sentences = 0;
    private static String sentence = "";

    private Edge() {
    }

    static void sentence(String where, String words) {
        sentences++;
        sentence = where + " '" + words + "'";
    }

    static void due(String call, long got, long want) {
        if (got != want) {
            wrong++;
            System.out.println(sentence + ": " + call + " answered " + got + ", due is " + want);
        }
    }

    static void dueText(String what, String got, String want) {
        if (!got.equals(want)) {
            wrong++;
            System.out.println(sentence + ": " + what + " is\n  " + got + "\ndue is\n  " + want);
        }
    }

    static void dueRefusals(PieceWords x, int bads, int noes, int fulls) {
        due("told(0)", x.told(0), bads);
        due("told(1)", x.told(1), noes);
        due("told(2)", x.told(2), fulls);
    }

    static void end() {
        System.out.println(wrong == 0 ? sentences + " sentences hold" : wrong + " answers are not as due");
        if (wrong != 0) {
            System.exit(1);
        }
    }

    /** A new object with these RELATORS (none, if the text is empty) and WORDS from 0 on. */
    static PieceWords make(String relators, String words) {
        PieceWords x = new PieceWords();
        if (!relators.isEmpty()) {
            relators(x, relators);
        }
        if (!words.isEmpty()) {
            words(x, 0, words);
        }
        return x;
    }

    static void text(PieceWords x, String text) {
        x.clear();
        for (int k = 0; k < text.length(); k++) {
            x.type(text.charAt(k));
        }
    }

    static int relators(PieceWords x, String text) {
        text(x, text);
        return x.relators();
    }

    static int words(PieceWords x, int w, String text) {
        text(x, text);
        return x.words(w);
    }

    static String word(PieceWords x, int w) {
        StringBuilder shown = new StringBuilder();
        int many = x.length(w);
        for (int k = 0; k < many; k++) {
            shown.append("abcdABCD".charAt(x.letter(w, k)));
        }
        return shown.toString();
    }

    static String member(PieceWords x, int m) {
        StringBuilder shown = new StringBuilder();
        int many = x.member(m, NONE);
        for (int k = 0; k < many; k++) {
            shown.append("abcdABCD".charAt(x.member(m, k)));
        }
        return shown.toString();
    }

    /** MEMBERS from the first to the last one, with a blank between them. */
    static String members(PieceWords x) {
        StringBuilder shown = new StringBuilder();
        int many = x.told(5);
        for (int m = 0; m < many; m++) {
            shown.append(m == 0 ? "" : " ").append(member(x, m));
        }
        return shown.toString();
    }

    /** The call is refused so, which is counted once, and all else is as if it had not come. */
    static void refused(Supplier<PieceWords> maker, String call, ToLongFunction<PieceWords> doing, int why) {
        PieceWords without = maker.get();
        PieceWords x = maker.get();
        due(call, doing.applyAsLong(x), why);
        for (int k = 0; k < 3; k++) {
            due("told(" + k + ") behind " + call, x.told(k), without.told(k) + (k == BAD - why ? 1 : 0));
        }
        dueText("what stands behind " + call, all(x), all(without));
    }

    /** The call answers this, and neither that nor anything else has changed. */
    static void changesNothing(Supplier<PieceWords> maker, String call, ToLongFunction<PieceWords> doing, long want) {
        PieceWords without = maker.get();
        PieceWords x = maker.get();
        due(call, doing.applyAsLong(x), want);
        due("digest() behind " + call, x.digest(), without.digest());
        dueText("what stands behind " + call, all(x), all(without));
    }

    /** What calls can see of an object, but how often it refused; THE TEXT is read last. */
    private static String all(PieceWords x) {
        StringBuilder seen = new StringBuilder("told");
        for (int what = 3; what < 8; what++) {
            seen.append(' ').append(x.told(what));
        }
        int many = x.told(4);
        for (int r = 0; r < many; r++) {
            seen.append(", relator ").append(x.relator(r, 0)).append(' ').append(x.relator(r, 1)).append(' ')
                .append(x.relator(r, 2));
        }
        int last = x.told(5) - 1;
        if (last >= 0) {
            seen.append(", members ").append(member(x, 0)).append(" .. ").append(member(x, last));
        }
        for (int w = 0; w < 6; w++) {
            seen.append(", ").append(word(x, w));
        }
        seen.append(", words(0) ").append(x.words(0)).append(", ").append(word(x, 0));
        return seen.toString();
    }
}
