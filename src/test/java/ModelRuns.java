import java.util.ArrayList;
import java.util.List;
import java.util.Random;

/**
 * Long runs of calls, chosen by fixed seeds, against a slow model of the document
 * that is written apart from the class: WORDS are texts over "abcdABCD" there.
 */
public final class ModelRuns {
    private static final int RUNS = 1500;
    private static final int CALLS = 512;
    private static final String[] RELATOR_TEXTS = {
        "abABcdCD;", "a7;", "ab2ab3ab4;", "a;", "aa;", "ab;ba;", "abcABCd;", "abcdABCD;acbd;",
        "abcdabcABCDabd;", "a9b;", "a;b;c;", "a2;b3;(ab)7;", "abcd;bcda;", "(ab)7;", "(abc)4;d2;",
        "a2;b2;c2;", "abABcdCD;a9;", "aab;ab;", "abcabd;", "a3;a5;", "d;abcdABCD;", "(aB)7;(cD)7;",
        "abAB;", "a2b2c2d2;", "a3b3c3d3;", "abacabad;", "a2;a;", "(ab)2;(cd)3;", "ab2c3d4;", " a ; b2 ;",
        "((aB)2c)2;", "a7;b7;c7;", "a2c2;", "abc;cba;", "a4;", "abcd;", "b9b5;", "a2;ba2;", "dabcDCBA;"};

    private static int wrong = 0;

    public static void main(String[] args) {
        for (int run = 0; run < RUNS && wrong < 20; run++) {
            oneRun(run);
        }
        System.out.println(wrong == 0 ? RUNS + " model runs are as due" : wrong + " answers are not as due");
        if (wrong != 0) {
            System.exit(1);
        }
    }

    private static void oneRun(int run) {
        Random random = new Random(7_000_003L * run + 11);
        PieceWords x = new PieceWords();
        Model model = new Model();
        StringBuilder log = new StringBuilder();
        int calls = 0;
        List<int[]> waiting = new ArrayList<>();
        while (calls < CALLS) {
            if (waiting.isEmpty()) {
                choose(random, waiting);
            }
            int[] call = waiting.remove(0);
            long got = call(x, call);
            long want = model.call(call);
            calls++;
            log.append(show(call)).append(" = ").append(got).append('\n');
            if (got != want) {
                wrong++;
                System.out.println("run " + run + ": " + show(call) + " answered " + got + ", due is " + want
                    + "\nby\n" + log);
                return;
            }
        }
    }

    private static final String[] NAMES = {"type", "clear", "relators", "words", "chooser", "relator", "member", "good",
        "alike", "rank", "length", "letter", "adds", "times", "inverse", "power", "ring", "turn", "sum", "cuts", "cut",
        "shorten", "trail", "nothing", "same", "order", "turned", "nothings", "draw", "loops", "told", "digest"};

    private static String show(int[] c) {
        return NAMES[c[0]] + "(" + c[1] + ", " + c[2] + ", " + c[3] + ")";
    }

    private static void choose(Random random, List<int[]> out) {
        int what = random.nextInt(100);
        if (what < 3) {
            typeText(RELATOR_TEXTS[random.nextInt(RELATOR_TEXTS.length)], random, out);
            out.add(call(2, 0, 0, 0));
            for (int r = -1; r < 4; r++) {
                out.add(call(5, r, random.nextInt(3), 0));
                out.add(call(5, r, 1, 0));
            }
            out.add(call(7, 6, 0, 0));
            return;
        }
        if (what < 6) {
            typeText(randomText(random), random, out);
            out.add(random.nextBoolean() ? call(2, 0, 0, 0) : call(3, small(random, 7) - 1, 0, 0));
            return;
        }
        if (what < 9) {
            followTrail(random, out);
            return;
        }
        if (what < 12) {
            turnAbout(random, out);
            return;
        }
        int f = random.nextInt(NAMES.length);
        if (f == 1 || f == 0 && random.nextInt(4) != 0) {
            f = 29;
        }
        if (f == 27 && random.nextInt(6) != 0) {
            f = 26;
        }
        out.add(arguments(f, random));
        if (f >= 13 && f <= 21 || f == 28 || f == 29) {
            out.add(call(31, 0, 0, 0));
        }
    }

    /** A word with many CUTS, and the trail of each chooser on it. */
    private static void followTrail(Random r, List<int[]> out) {
        out.add(named("loops", r.nextInt(1000000), 1 + r.nextInt(5), 0));
        out.add(named("turn", 0, r.nextInt(6), 0));
        for (int kind = 0; kind < 5; kind++) {
            out.add(named("chooser", kind, 0, 0));
            out.add(named("cuts", 0, 0, 0));
            for (int what = 0; what < 4; what++) {
                out.add(named("trail", 0, r.nextInt(4), what));
            }
            out.add(named("inverse", 0, 1, 0));
            out.add(named("cut", 1, 0, 0));
            out.add(named("shorten", 1, 0, 0));
            out.add(named("digest", 0, 0, 0));
        }
    }

    /** Two words of which the one is made of the other by what should not matter, but for chance. */
    private static void turnAbout(Random r, List<int[]> out) {
        out.add(named("draw", r.nextInt(1000000), 1 + r.nextInt(8), 2));
        out.add(named("loops", r.nextInt(1000000), 1 + r.nextInt(2), 3));
        out.add(named("times", 2, 3, 4));
        out.add(named("shorten", 4, 0, 0));
        out.add(named("ring", 4, 4, 0));
        out.add(named("same", 2, 4, 0));
        out.add(named("turned", 2, 4, 0));
        out.add(named("turn", 4, r.nextInt(4), 4));
        out.add(named("loops", r.nextInt(1000000), 1, 3));
        out.add(named("times", 4, 3, 4));
        out.add(named("shorten", 4, 0, 0));
        out.add(named("turned", 2, 4, 0));
        out.add(named("turned", 4, 2, 0));
        out.add(named("order", 2, 0, 0));
    }

    private static int[] named(String name, int a, int b, int c) {
        return call(List.of(NAMES).indexOf(name), a, b, c);
    }

    private static int[] arguments(int f, Random r) {
        switch (NAMES[f]) {
            case "type": return call(f, small(r, 131) - 1, 0, 0);
            case "words": return call(f, small(r, 8) - 1, 0, 0);
            case "chooser": return call(f, small(r, 7) - 1, 0, 0);
            case "relator": return call(f, small(r, 5) - 1, small(r, 5) - 1, 0);
            case "member": return call(f, small(r, 40) - 1, small(r, 18) - 2, 0);
            case "good": return call(f, small(r, 11), 0, 0);
            case "alike": return call(f, small(r, 40) - 1, small(r, 40) - 1, 0);
            case "rank": return call(f, small(r, 9), 0, 0);
            case "letter": return call(f, word(r), small(r, 63) - 1, 0);
            case "adds": return call(f, word(r), small(r, 20) == 0 ? r.nextInt(12) - 2 : r.nextInt(8), 0);
            case "times": return call(f, word(r), word(r), word(r));
            case "inverse": case "ring": case "same": case "turned": return call(f, word(r), word(r), 0);
            case "power": return call(f, word(r), small(r, 3) == 0 ? r.nextInt(23) - 11 : r.nextInt(5) - 2, word(r));
            case "turn": return call(f, word(r), small(r, 3) == 0 ? r.nextInt(63) - 1 : r.nextInt(12), word(r));
            case "sum": return call(f, word(r), small(r, 6) - 1, 0);
            case "trail": return call(f, word(r), small(r, 7) - 1, small(r, 6) - 1);
            case "nothings": return call(f, small(r, 5), 0, 0);
            case "draw": return call(f, seed(r), small(r, 3) == 0 ? r.nextInt(64) - 1 : r.nextInt(10), word(r));
            case "loops": return call(f, seed(r), small(r, 3) == 0 ? r.nextInt(9) - 1 : r.nextInt(4), word(r));
            case "told": return call(f, small(r, 10) - 1, 0, 0);
            default: return call(f, word(r), 0, 0);
        }
    }

    private static int[] call(int f, int a, int b, int c) {
        return new int[] {f, a, b, c};
    }

    private static int small(Random r, int n) {
        return r.nextInt(200) == 0 ? r.nextInt() : r.nextInt(n);
    }

    private static int word(Random r) {
        return r.nextInt(40) == 0 ? (r.nextBoolean() ? 6 : -1) : r.nextInt(6);
    }

    private static int seed(Random r) {
        return r.nextInt(40) == 0 ? (r.nextBoolean() ? 1000000 : -1) : r.nextInt(1000000);
    }

    private static void typeText(String text, Random random, List<int[]> out) {
        out.add(call(1, 0, 0, 0));
        for (int k = 0; k < text.length(); k++) {
            out.add(call(0, text.charAt(k), 0, 0));
        }
    }

    private static String randomText(Random r) {
        StringBuilder text = new StringBuilder();
        int words = r.nextInt(r.nextInt(3) == 0 ? 8 : 4);
        for (int w = 0; w < words; w++) {
            blanks(r, text);
            factors(r, text, 0);
            blanks(r, text);
            text.append(';');
        }
        blanks(r, text);
        if (r.nextInt(3) == 0 && text.length() > 0) {
            int place = r.nextInt(text.length());
            text.setCharAt(place, "abAB() ;1290e\t".charAt(r.nextInt(14)));
        }
        if (r.nextInt(6) == 0 && text.length() > 0) {
            text.setLength(r.nextInt(text.length()));
        }
        return text.toString();
    }

    private static void blanks(Random r, StringBuilder text) {
        while (r.nextInt(5) == 0) {
            text.append(' ');
        }
    }

    private static void factors(Random r, StringBuilder text, int depth) {
        int many = 1 + r.nextInt(4);
        for (int k = 0; k < many; k++) {
            if (r.nextInt(4) == 0 && (depth < 4 || r.nextInt(4) == 0)) {
                text.append('(');
                factors(r, text, depth + 1);
                text.append(')');
            } else {
                text.append("abcdABCD".charAt(r.nextInt(8)));
            }
            if (r.nextInt(4) == 0) {
                text.append((char) ('1' + (r.nextInt(3) == 0 ? r.nextInt(9) : r.nextInt(3))));
            }
            blanks(r, text);
        }
    }

    private static long call(PieceWords x, int[] c) {
        switch (NAMES[c[0]]) {
            case "type": return x.type(c[1]);
            case "clear": return x.clear();
            case "relators": return x.relators();
            case "words": return x.words(c[1]);
            case "chooser": return x.chooser(c[1]);
            case "relator": return x.relator(c[1], c[2]);
            case "member": return x.member(c[1], c[2]);
            case "good": return x.good(c[1]);
            case "alike": return x.alike(c[1], c[2]);
            case "rank": return x.rank(c[1]);
            case "length": return x.length(c[1]);
            case "letter": return x.letter(c[1], c[2]);
            case "adds": return x.adds(c[1], c[2]);
            case "times": return x.times(c[1], c[2], c[3]);
            case "inverse": return x.inverse(c[1], c[2]);
            case "power": return x.power(c[1], c[2], c[3]);
            case "ring": return x.ring(c[1], c[2]);
            case "turn": return x.turn(c[1], c[2], c[3]);
            case "sum": return x.sum(c[1], c[2]);
            case "cuts": return x.cuts(c[1]);
            case "cut": return x.cut(c[1]);
            case "shorten": return x.shorten(c[1]);
            case "trail": return x.trail(c[1], c[2], c[3]);
            case "nothing": return x.nothing(c[1]);
            case "same": return x.same(c[1], c[2]);
            case "order": return x.order(c[1]);
            case "turned": return x.turned(c[1], c[2]);
            case "nothings": return x.nothings(c[1]);
            case "draw": return x.draw(c[1], c[2], c[3]);
            case "loops": return x.loops(c[1], c[2], c[3]);
            case "told": return x.told(c[1]);
            default: return x.digest();
        }
    }

    /** The document, word by word and without care for speed. */
    private static final class Model {
        private final List<String> words = new ArrayList<>(List.of("", "", "", "", "", ""));
        private List<String> relators = new ArrayList<>();
        private List<String> members = new ArrayList<>();
        private String text = "";
        private int kind = 0;
        private final int[] refused = new int[3];

        long call(int[] c) {
            if (NAMES[c[0]].equals("digest")) {
                return digest();
            }
            List<String> before = new ArrayList<>(words);
            int answer = answer(NAMES[c[0]], c[1], c[2], c[3]);
            boolean mayAnswerSo = !NAMES[c[0]].equals("sum");
            if (mayAnswerSo && answer <= -2 && answer >= -4) {
                refused[-2 - answer]++;
                for (int w = 0; w < 6; w++) {
                    words.set(w, before.get(w));
                }
            } else if (sumRefused) {
                refused[0]++;
                sumRefused = false;
            }
            return answer;
        }

        /** sum may well answer -2, so that its refusal is told apart. */
        private boolean sumRefused = false;

        private int answer(String name, int a, int b, int c) {
            switch (name) {
                case "type": case "clear": case "relators": case "words": case "chooser":
                    return texts(name, a);
                case "relator": case "member": case "good": case "alike": case "rank":
                    return aboutRelators(name, a, b);
                case "length": case "letter": case "adds": case "times": case "inverse":
                case "power": case "ring": case "turn": case "sum":
                    return aboutWords(name, a, b, c);
                case "draw": case "loops": case "told":
                    return drawn(name, a, b, c);
                default:
                    return shortenings(name, a, b, c);
            }
        }

        private int texts(String name, int a) {
            switch (name) {
                case "type":
                    if (a < 0 || a > 127) { return -2; }
                    if (text.length() == 100) { return -4; }
                    text += (char) a;
                    return text.length();
                case "clear":
                    int had = text.length();
                    text = "";
                    return had;
                case "relators": {
                    Object got = read(3, true);
                    if (got instanceof Integer fault) { return -10 - fault; }
                    relators = strings(got);
                    makeMembers();
                    return relators.size();
                }
                case "words": {
                    if (a < 0 || a > 5) { return -2; }
                    Object got = read(6 - a, false);
                    if (got instanceof Integer fault) { return -10 - fault; }
                    List<String> told = strings(got);
                    for (int k = 0; k < told.size(); k++) { words.set(a + k, told.get(k)); }
                    return told.size();
                }
                default:
                    if (a < 0 || a > 4) { return -2; }
                    int was = kind;
                    kind = a;
                    return was;
            }
        }

        @SuppressWarnings("unchecked")
        private static List<String> strings(Object got) {
            return (List<String>) got;
        }

        /** A list of WORDS, or the FAULT. */
        private Object read(int most, boolean asRelators) {
            at = 0;
            List<Integer> begins = new ArrayList<>();
            List<String> whole = new ArrayList<>();
            try {
                skip();
                do {
                    begins.add(at);
                    whole.add(readFactors(0));
                    if (at >= text.length() || text.charAt(at) != ';') { throw new Wrong(); }
                    at++;
                    skip();
                } while (at < text.length());
            } catch (Wrong e) {
                return Math.min(at, text.length());
            }
            List<String> told = new ArrayList<>();
            for (int k = 0; k < whole.size(); k++) {
                String word = reduce(whole.get(k));
                if (asRelators) { word = ringOf(word); }
                if (whole.get(k).length() > 60 || k >= most
                        || asRelators && (word.isEmpty() || word.length() > 14)) {
                    return begins.get(k);
                }
                told.add(word);
            }
            return told;
        }

        private static final class Wrong extends Exception {
            private static final long serialVersionUID = 1L;
        }

        private int at;

        private void skip() {
            while (at < text.length() && text.charAt(at) == ' ') { at++; }
        }

        private String readFactors(int depth) throws Wrong {
            String all = "";
            boolean some = false;
            while (true) {
                skip();
                if (at >= text.length()) { throw new Wrong(); }
                char c = text.charAt(at);
                String factor;
                if ("abcdABCD".indexOf(c) >= 0) {
                    factor = "" + c;
                    at++;
                } else if (c == '(' && depth < 4) {
                    at++;
                    factor = readFactors(depth + 1);
                    if (at >= text.length() || text.charAt(at) != ')') { throw new Wrong(); }
                    at++;
                } else if ((c == ')' || c == ';') && some) {
                    return all;
                } else {
                    throw new Wrong();
                }
                some = true;
                if (at < text.length() && "123456789".indexOf(text.charAt(at)) >= 0) {
                    // far above 60 all lengths are alike, and the true ones would need much room
                    factor = factor.repeat(text.charAt(at) - '0');
                    at++;
                }
                all += factor;
                if (all.length() > 1000) { all = all.substring(0, 1000); }
            }
        }

        private void makeMembers() {
            members = new ArrayList<>();
            for (String r : relators) {
                for (String turn : turnsBothWays(r)) {
                    if (!members.contains(turn)) { members.add(turn); }
                }
            }
        }

        private static List<String> turnsBothWays(String r) {
            List<String> all = new ArrayList<>();
            for (int k = 0; k < r.length(); k++) { all.add(r.substring(k) + r.substring(0, k)); }
            String back = invert(r);
            for (int k = 0; k < r.length(); k++) { all.add(back.substring(k) + back.substring(0, k)); }
            return all;
        }

        private int piece(String r) {
            int most = 0;
            for (String turn : turnsBothWays(r)) {
                for (String other : members) {
                    if (!other.equals(turn)) { most = Math.max(most, common(turn, other)); }
                }
            }
            return most;
        }

        private static int common(String s, String t) {
            int l = Math.min(s.length(), t.length());
            while (!s.substring(0, l).equals(t.substring(0, l))) { l--; }
            return l;
        }

        private boolean isGood(int n) {
            for (String r : relators) {
                if (n * piece(r) >= r.length()) { return false; }
            }
            return true;
        }

        private int aboutRelators(String name, int a, int b) {
            switch (name) {
                case "relator":
                    if (a < 0 || a >= relators.size() || b < 0 || b > 2) { return -2; }
                    String r = relators.get(a);
                    if (b == 0) { return r.length(); }
                    return b == 1 ? piece(r) : ownFirst(a);
                case "member":
                    if (a < 0 || a >= members.size() || b < -1) { return -2; }
                    if (b == -1) { return members.get(a).length(); }
                    return letterAt(members.get(a), b);
                case "good":
                    return a < 1 || a > 9 ? -2 : isGood(a) ? 1 : 0;
                case "alike":
                    if (a < 0 || a >= members.size() || b < 0 || b >= members.size()) { return -2; }
                    return common(members.get(a), members.get(b));
                default:
                    return a == 2 || a == 3 || a == 5 || a == 7 ? rankOf(a) : -2;
            }
        }

        private int ownFirst(int which) {
            List<String> earlier = new ArrayList<>();
            int own = 0;
            for (int r = 0; r <= which; r++) {
                for (String turn : turnsBothWays(relators.get(r))) {
                    if (!earlier.contains(turn)) {
                        earlier.add(turn);
                        if (r == which) { own++; }
                    }
                }
            }
            return own;
        }

        /** By counting what all sums of the lines reach: p to the power of the rank. */
        private int rankOf(int p) {
            List<String> reached = new ArrayList<>();
            int lines = relators.size();
            int ways = (int) Math.round(Math.pow(p, lines));
            for (int way = 0; way < ways; way++) {
                StringBuilder sum = new StringBuilder();
                for (int l = 0; l < 4; l++) {
                    int value = 0;
                    int rest = way;
                    for (String r : relators) {
                        value += rest % p * surplus(r, l);
                        rest /= p;
                    }
                    sum.append(Math.floorMod(value, p)).append(' ');
                }
                if (!reached.contains(sum.toString())) { reached.add(sum.toString()); }
            }
            int rank = 0;
            for (int n = reached.size(); n > 1; n /= p) { rank++; }
            return rank;
        }

        private static int surplus(String s, int l) {
            int sum = 0;
            for (char c : s.toCharArray()) {
                if (c == "abcd".charAt(l)) { sum++; }
                if (c == "ABCD".charAt(l)) { sum--; }
            }
            return sum;
        }

        private static int letterAt(String s, int k) {
            return k < s.length() ? "abcdABCD".indexOf(s.charAt(k)) : -1;
        }

        private static boolean bad(int... ws) {
            for (int w : ws) {
                if (w < 0 || w > 5) { return true; }
            }
            return false;
        }

        private int set(int to, String word) {
            if (word.length() > 60) { return -4; }
            words.set(to, word);
            return word.length();
        }

        private int aboutWords(String name, int a, int b, int c) {
            switch (name) {
                case "length":
                    return bad(a) ? -2 : words.get(a).length();
                case "letter":
                    return bad(a) || b < 0 ? -2 : letterAt(words.get(a), b);
                case "adds":
                    return bad(a) || b < 0 || b > 7 ? -2 : set(a, reduce(words.get(a) + "abcdABCD".charAt(b)));
                case "times":
                    return bad(a, b, c) ? -2 : set(c, reduce(words.get(a) + words.get(b)));
                case "inverse":
                    return bad(a, b) ? -2 : set(b, invert(words.get(a)));
                case "power":
                    return bad(a, c) || b < -9 || b > 9 ? -2 : set(c, powerOf(words.get(a), b));
                case "ring":
                    return bad(a, b) ? -2 : set(b, ringOf(words.get(a)));
                case "turn":
                    if (bad(a, c) || b < 0 || b > 59) { return -2; }
                    if (words.get(a).length() <= b) { return -3; }
                    return set(c, reduce(words.get(a).substring(b) + words.get(a).substring(0, b)));
                default:
                    if (bad(a) || b < 0 || b > 3) {
                        sumRefused = true;
                        return -2;
                    }
                    return surplus(words.get(a), b);
            }
        }

        private static String powerOf(String s, int n) {
            return reduce((n < 0 ? invert(s) : s).repeat(Math.abs(n)));
        }

        private static String reduce(String s) {
            String now = s;
            boolean again = true;
            while (again) {
                again = false;
                for (String pair : new String[] {"aA", "Aa", "bB", "Bb", "cC", "Cc", "dD", "Dd"}) {
                    if (now.contains(pair)) {
                        now = now.replace(pair, "");
                        again = true;
                    }
                }
            }
            return now;
        }

        private static String invert(String s) {
            StringBuilder back = new StringBuilder();
            for (char c : s.toCharArray()) {
                back.append(Character.isUpperCase(c) ? Character.toLowerCase(c) : Character.toUpperCase(c));
            }
            return back.reverse().toString();
        }

        private static String ringOf(String s) {
            String now = s;
            while (now.length() > 1 && invert(now.substring(0, 1)).equals(now.substring(now.length() - 1))) {
                now = now.substring(1, now.length() - 1);
            }
            return now;
        }

        /** All CUTS in their row: place, MEMBER, l, what is saved. */
        private List<int[]> allCuts(String word) {
            List<int[]> all = new ArrayList<>();
            for (int i = 0; i < word.length(); i++) {
                for (int m = 0; m < members.size(); m++) {
                    int l = common(word.substring(i), members.get(m));
                    int saves = 2 * l - members.get(m).length();
                    if (saves > 0) { all.add(new int[] {i, m, l, saves}); }
                }
            }
            return all;
        }

        private int[] chosen(String word) {
            int[] best = null;
            for (int[] cut : allCuts(word)) {
                if (best == null || better(cut, best)) { best = cut; }
            }
            return best;
        }

        private boolean better(int[] cut, int[] best) {
            boolean asFirst = cut[0] == best[0] && cut[2] > best[2];
            if (kind == 0) { return asFirst; }
            if (kind == 1) { return cut[0] > best[0] || asFirst; }
            if (kind == 2) { return cut[3] > best[3]; }
            return kind == 3 ? cut[3] < best[3] : cut[2] > best[2];
        }

        private String doCut(String word, int[] cut) {
            return reduce(word.substring(0, cut[0]) + invert(members.get(cut[1]).substring(cut[2]))
                + word.substring(cut[0] + cut[2]));
        }

        private boolean vanishes(String word) {
            String now = word;
            for (int[] cut = chosen(now); cut != null; cut = chosen(now)) { now = doCut(now, cut); }
            return now.isEmpty();
        }

        private int shortenings(String name, int a, int b, int c) {
            boolean isCount = name.equals("nothings");
            if (isCount ? a < 1 || a > 4 : bad(a)) { return -2; }
            if ((name.equals("same") || name.equals("turned")) && bad(b)) { return -2; }
            if (name.equals("trail") && (b < 0 || c < 0 || c > 3)) { return -2; }
            String word = isCount ? "" : words.get(a);
            switch (name) {
                case "cuts":
                    return allCuts(word).size();
                case "cut":
                    return chosen(word) == null ? -3 : set(a, doCut(word, chosen(word)));
                case "shorten": {
                    int done = 0;
                    for (int[] cut = chosen(word); cut != null; cut = chosen(word)) {
                        word = doCut(word, cut);
                        done++;
                    }
                    words.set(a, word);
                    return done;
                }
                case "trail": {
                    for (int k = 0; ; k++) {
                        int[] cut = chosen(word);
                        if (cut == null) { return -1; }
                        word = doCut(word, cut);
                        if (k == b) { return c == 3 ? word.length() : cut[c]; }
                    }
                }
                default:
                    return isGood(6) ? decided(name, a, b, word) : -3;
            }
        }

        private int decided(String name, int a, int b, String word) {
            switch (name) {
                case "nothing":
                    return vanishes(word) ? 1 : 0;
                case "same": {
                    String both = reduce(word + invert(words.get(b)));
                    return both.length() > 60 ? -4 : vanishes(both) ? 1 : 0;
                }
                case "order":
                    for (int n = 1; n <= 6; n++) {
                        String many = powerOf(word, n);
                        if (many.length() > 60) { return -1; }
                        if (vanishes(many)) { return n; }
                    }
                    return -1;
                case "turned":
                    return turning(ringOf(word), ringOf(words.get(b)));
                default:
                    return countNothings("", a);
            }
        }

        private int turning(String from, String to) {
            if (from.length() > 8 || to.length() > 8) { return -3; }
            List<String> zs = new ArrayList<>(List.of(""));
            for (int l = 1; l <= 2; l++) {
                for (String m : members) {
                    if (m.length() >= l && !zs.contains(m.substring(0, l))) { zs.add(m.substring(0, l)); }
                }
            }
            for (int t = 0; t == 0 || t < from.length(); t++) {
                for (String z : zs) {
                    String turn = from.substring(t) + from.substring(0, t);
                    if (vanishes(reduce(turn + z + invert(to) + invert(z)))) { return 100 * t + z.length(); }
                }
            }
            return -1;
        }

        private int countNothings(String begun, int n) {
            if (n == 0) { return vanishes(begun) ? 1 : 0; }
            int count = 0;
            for (char c : "abcdABCD".toCharArray()) {
                if (reduce(begun + c).length() > begun.length()) { count += countNothings(begun + c, n - 1); }
            }
            return count;
        }

        private int drawn(String name, int a, int b, int c) {
            if (name.equals("told")) { return a < 0 || a > 7 ? -2 : tell(a); }
            int most = name.equals("draw") ? 60 : 6;
            if (a < 0 || a > 999999 || b < 0 || b > most || bad(c)) { return -2; }
            if (name.equals("loops") && relators.isEmpty()) { return -3; }
            java.math.BigInteger x = java.math.BigInteger.valueOf(a);
            String word = "";
            for (int k = 0; k < b; k++) {
                x = x.multiply(java.math.BigInteger.valueOf(1103515245)).add(java.math.BigInteger.valueOf(12345))
                    .mod(java.math.BigInteger.valueOf(2147483648L));
                long high = x.longValue() / 65536;
                if (name.equals("draw")) {
                    word = reduce(word + "abcdABCD".charAt((int) (high % 8)));
                } else {
                    String l = "" + "abcdABCD".charAt((int) (x.longValue() / 1024 % 8));
                    word = reduce(word + l + members.get((int) (high % members.size())) + invert(l));
                    if (word.length() > 60) { return -4; }
                }
            }
            return set(c, word);
        }

        private int tell(int what) {
            int letters = 0;
            for (String w : words) { letters += w.length(); }
            return new int[] {refused[0], refused[1], refused[2], text.length(), relators.size(), members.size(),
                kind, letters}[what];
        }

        private long digest() {
            long h = 1907;
            for (int k = 0; k < 8; k++) { h = 31 * h + tell(k); }
            List<String> all = new ArrayList<>(relators);
            all.addAll(words);
            for (String s : all) {
                h = 31 * h + s.length();
                for (int k = 0; k < s.length(); k++) { h = 31 * h + letterAt(s, k); }
            }
            return h;
        }
    }
}
