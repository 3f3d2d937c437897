/**
 * Words of a group that is told by relators: their pieces, shortening by more
 * than half a relator, and what can be decided by it. The words in capitals
 * are those of the document.
 */
public final class PieceWords {
    public static final int NONE = -1, BAD = -2, NO = -3, FULL = -4;

    private static final int PLAIN_LETTERS = 4;
    private static final int ALL_LETTERS = 8;
    private static final int WORD_COUNT = 6;
    private static final int WORD_ROOM = 60;
    private static final int RELATOR_COUNT = 3;
    private static final int RELATOR_ROOM = 14;
    private static final int MEMBER_COUNT = 2 * RELATOR_COUNT * RELATOR_ROOM;
    private static final int TEXT_ROOM = 100;
    private static final int DEEPEST = 4;
    private static final int FAULT_BASE = -10;
    private static final int MOST_TIMES = 9;
    private static final int MOST_ORDER = 6;
    private static final int MOST_LOOPS = 6;
    private static final int MOST_COUNTED = 4;
    private static final int LONGEST_RING = 8;
    private static final int LONGEST_Z = 2;
    private static final int TELLINGS = 8;
    private static final int LAST_SEED = 999999;
    /** Shortening decides what is nothing only where the RELATORS are GOOD by this. */
    private static final int DECIDING = 6;

    private static final int FIRST = 0, LAST = 1, GREEDY = 2, SHY = 3, LONG = 4;

    private final Row[] row;
    private final Text text;
    private final Reader reader;
    private final Members members;
    private final Shortening shortening;
    /** What a call makes, until it is known that it is not refused. */
    private final Row made;
    private final Row ringOfA;
    private final Row ringOfB;
    private int bads;
    private int noes;
    private int fulls;

    public PieceWords() {
        row = new Row[WORD_COUNT];
        for (int w = 0; w < WORD_COUNT; w++) {
            row[w] = new Row(WORD_ROOM);
        }
        text = new Text();
        reader = new Reader();
        members = new Members();
        shortening = new Shortening(members);
        made = new Row(MOST_TIMES * WORD_ROOM);
        ringOfA = new Row(WORD_ROOM);
        ringOfB = new Row(WORD_ROOM);
    }

    // ---- texts

    public int type(int c) {
        if (c < 0 || c > 127) {
            return refuse(BAD);
        }
        return text.accept(c) ? text.size : refuse(FULL);
    }

    public int clear() {
        int had = text.size;
        text.size = 0;
        return had;
    }

    public int relators() {
        int fault = readText(RELATOR_COUNT, true);
        if (fault != NONE) {
            return FAULT_BASE - fault;
        }
        members.become(reader);
        return reader.count;
    }

    public int words(int w) {
        if (!isWord(w)) {
            return refuse(BAD);
        }
        int fault = readText(WORD_COUNT - w, false);
        if (fault != NONE) {
            return FAULT_BASE - fault;
        }
        for (int k = 0; k < reader.count && w + k < WORD_COUNT; k++) {
            row[w + k].copy(reader.read[k]);
        }
        return reader.count;
    }

    public int chooser(int kind) {
        if (kind < FIRST || kind > LONG) {
            return refuse(BAD);
        }
        int was = shortening.kind;
        shortening.kind = kind;
        return was;
    }

    // ---- relators

    public int relator(int r, int what) {
        if (r < 0 || r >= members.relatorCount || what < 0 || what > 2) {
            return refuse(BAD);
        }
        switch (what) {
            case 0:
                return members.relator[r].count;
            case 1:
                return members.piece[r];
            default:
                return members.ownFirst[r];
        }
    }

    public int member(int m, int k) {
        if (!members.has(m) || k < NONE) {
            return refuse(BAD);
        }
        return k == NONE ? members.sizeOf(m) : members.letterOf(m, k);
    }

    public int good(int n) {
        if (n < 1 || n > 9) {
            return refuse(BAD);
        }
        return members.areGood(n) ? 1 : 0;
    }

    public int alike(int m, int o) {
        if (!members.has(m) || !members.has(o)) {
            return refuse(BAD);
        }
        return members.sharedStart(m, o);
    }

    public int rank(int p) {
        if (p != 2 && p != 3 && p != 5 && p != 7) {
            return refuse(BAD);
        }
        return members.rankBy(p);
    }

    // ---- words

    public int length(int w) {
        return isWord(w) ? row[w].count : refuse(BAD);
    }

    public int letter(int w, int k) {
        if (!isWord(w) || k < 0) {
            return refuse(BAD);
        }
        return row[w].at(k);
    }

    public int adds(int w, int l) {
        if (!isWord(w) || l < 0 || l >= ALL_LETTERS) {
            return refuse(BAD);
        }
        made.copy(row[w]);
        made.put(l);
        return keep(w);
    }

    public int times(int a, int b, int to) {
        if (!isWord(a) || !isWord(b) || !isWord(to)) {
            return refuse(BAD);
        }
        made.copy(row[a]);
        made.putRow(row[b]);
        return keep(to);
    }

    public int inverse(int a, int to) {
        if (!isWord(a) || !isWord(to)) {
            return refuse(BAD);
        }
        made.wipe();
        made.putInverse(row[a]);
        return keep(to);
    }

    public int power(int a, int n, int to) {
        if (!isWord(a) || n < -MOST_TIMES || n > MOST_TIMES || !isWord(to)) {
            return refuse(BAD);
        }
        makePower(a, n);
        return keep(to);
    }

    public int ring(int a, int to) {
        if (!isWord(a) || !isWord(to)) {
            return refuse(BAD);
        }
        made.copy(row[a]);
        made.cutToRing();
        return keep(to);
    }

    public int turn(int a, int n, int to) {
        if (!isWord(a) || n < 0 || n >= WORD_ROOM || !isWord(to)) {
            return refuse(BAD);
        }
        if (row[a].count <= n) {
            return refuse(NO);
        }
        made.wipe();
        made.putTurn(row[a], n);
        return keep(to);
    }

    public int sum(int w, int l) {
        if (!isWord(w) || l < 0 || l >= PLAIN_LETTERS) {
            return refuse(BAD);
        }
        return row[w].surplusOf(l);
    }

    // ---- shortening

    public int cuts(int w) {
        return isWord(w) ? shortening.seek(row[w]) : refuse(BAD);
    }

    public int cut(int w) {
        if (!isWord(w)) {
            return refuse(BAD);
        }
        if (shortening.seek(row[w]) == 0) {
            return refuse(NO);
        }
        shortening.doCut(row[w]);
        return row[w].count;
    }

    public int shorten(int w) {
        return isWord(w) ? shortening.doAll(row[w]) : refuse(BAD);
    }

    public int trail(int w, int k, int what) {
        if (!isWord(w) || k < 0 || what < 0 || what > 3) {
            return refuse(BAD);
        }
        made.copy(row[w]);
        if (!shortening.doThrough(made, k)) {
            return NONE;
        }
        switch (what) {
            case 0:
                return shortening.place;
            case 1:
                return shortening.member;
            case 2:
                return shortening.matched;
            default:
                return made.count;
        }
    }

    public int nothing(int w) {
        if (!isWord(w)) {
            return refuse(BAD);
        }
        if (!members.areGood(DECIDING)) {
            return refuse(NO);
        }
        made.copy(row[w]);
        shortening.doAll(made);
        return made.count == 0 ? 1 : 0;
    }

    public int same(int a, int b) {
        if (!isWord(a) || !isWord(b)) {
            return refuse(BAD);
        }
        if (!members.areGood(DECIDING)) {
            return refuse(NO);
        }
        made.copy(row[a]);
        made.putInverse(row[b]);
        if (made.count > WORD_ROOM) {
            return refuse(FULL);
        }
        shortening.doAll(made);
        return made.count == 0 ? 1 : 0;
    }

    public int order(int a) {
        if (!isWord(a)) {
            return refuse(BAD);
        }
        if (!members.areGood(DECIDING)) {
            return refuse(NO);
        }
        for (int n = 1; n <= MOST_ORDER; n++) {
            makePower(a, n);
            if (made.count > WORD_ROOM) {
                return NONE;
            }
            shortening.doAll(made);
            if (made.count == 0) {
                return n;
            }
        }
        return NONE;
    }

    public int turned(int a, int b) {
        if (!isWord(a) || !isWord(b)) {
            return refuse(BAD);
        }
        ringOfA.copy(row[a]);
        ringOfA.cutToRing();
        ringOfB.copy(row[b]);
        ringOfB.cutToRing();
        if (!members.areGood(DECIDING) || ringOfA.count > LONGEST_RING || ringOfB.count > LONGEST_RING) {
            return refuse(NO);
        }
        // a ring without LETTERS has one TURN all the same
        int turns = Math.max(1, ringOfA.count);
        for (int t = 0; t < turns; t++) {
            for (int z = 0; z <= LONGEST_Z; z++) {
                if (someBeginningTurns(t, z)) {
                    return 100 * t + z;
                }
            }
        }
        return NONE;
    }

    public int nothings(int n) {
        if (n < 1 || n > MOST_COUNTED) {
            return refuse(BAD);
        }
        if (!members.areGood(DECIDING)) {
            return refuse(NO);
        }
        int found = 0;
        int rows = 1 << (3 * n);
        for (int code = 0; code < rows; code++) {
            made.wipe();
            for (int k = 0; k < n; k++) {
                made.put((code >> (3 * k)) & 7);
            }
            boolean reduced = made.count == n;
            shortening.doAll(made);
            if (reduced && made.count == 0) {
                found++;
            }
        }
        return found;
    }

    // ---- drawn

    public int draw(int seed, int n, int to) {
        if (seed < 0 || seed > LAST_SEED || n < 0 || n > WORD_ROOM || !isWord(to)) {
            return refuse(BAD);
        }
        made.wipe();
        long x = seed;
        for (int k = 0; k < n; k++) {
            x = nextDraw(x);
            made.put((int) (x / 65536 % ALL_LETTERS));
        }
        return keep(to);
    }

    public int loops(int seed, int n, int to) {
        if (seed < 0 || seed > LAST_SEED || n < 0 || n > MOST_LOOPS || !isWord(to)) {
            return refuse(BAD);
        }
        if (members.count == 0) {
            return refuse(NO);
        }
        made.wipe();
        long x = seed;
        // made stays where it passes 60, so that keep refuses it
        for (int k = 0; k < n && made.count <= WORD_ROOM; k++) {
            x = nextDraw(x);
            putLoop((int) (x / 65536 % members.count), (int) (x / 1024 % ALL_LETTERS));
        }
        return keep(to);
    }

    public int told(int what) {
        return what < 0 || what >= TELLINGS ? refuse(BAD) : tell(what);
    }

    public long digest() {
        long h = 1907;
        for (int what = 0; what < TELLINGS; what++) {
            h = 31 * h + tell(what);
        }
        for (int r = 0; r < members.relatorCount; r++) {
            h = digestOf(members.relator[r], h);
        }
        for (int w = 0; w < WORD_COUNT; w++) {
            h = digestOf(row[w], h);
        }
        return h;
    }

    // ---- what the calls share

    private static boolean isWord(int w) {
        return w >= 0 && w < WORD_COUNT;
    }

    private int refuse(int why) {
        switch (why) {
            case BAD:
                bads++;
                break;
            case NO:
                noes++;
                break;
            default:
                fulls++;
                break;
        }
        return why;
    }

    /** WORD to becomes what was made, unless that is too long. */
    private int keep(int to) {
        if (made.count > WORD_ROOM) {
            return refuse(FULL);
        }
        if (isWord(to)) {
            row[to].copy(made);
        }
        return made.count;
    }

    private int readText(int most, boolean asRelators) {
        int fault = text.wrongPlace();
        return fault != NONE ? fault : reader.readAll(text, most, asRelators);
    }

    private void makePower(int a, int n) {
        made.wipe();
        int times = Math.min(Math.abs(n), MOST_TIMES);
        for (int k = 0; k < times && isWord(a); k++) {
            if (n > 0) {
                made.putRow(row[a]);
            } else {
                made.putInverse(row[a]);
            }
        }
    }

    /** Whether a z of that many LETTERS takes TURN t of the one ring to the other. */
    private boolean someBeginningTurns(int t, int z) {
        if (z == 0) {
            return beginningTurns(t, NONE, 0);
        }
        for (int m = 0; m < members.count; m++) {
            if (members.beginsFresh(m, z) && beginningTurns(t, m, z)) {
                return true;
            }
        }
        return false;
    }

    private boolean beginningTurns(int t, int m, int z) {
        made.wipe();
        made.putTurn(ringOfA, t);
        for (int k = 0; k < z; k++) {
            made.put(members.letterOf(m, k));
        }
        made.putInverse(ringOfB);
        for (int k = z - 1; k >= 0; k--) {
            made.put(opposite(members.letterOf(m, k)));
        }
        shortening.doAll(made);
        return made.count == 0;
    }

    private void putLoop(int m, int l) {
        made.put(l);
        for (int k = 0; k < members.sizeOf(m); k++) {
            made.put(members.letterOf(m, k));
        }
        made.put(opposite(l));
    }

    private int tell(int what) {
        switch (what) {
            case 0:
                return bads;
            case 1:
                return noes;
            case 2:
                return fulls;
            case 3:
                return text.size;
            case 4:
                return members.relatorCount;
            case 5:
                return members.count;
            case 6:
                return shortening.kind;
            default:
                return lettersOfAll();
        }
    }

    private int lettersOfAll() {
        int letters = 0;
        for (int w = 0; w < WORD_COUNT; w++) {
            letters += row[w].count;
        }
        return letters;
    }

    private static long digestOf(Row from, long before) {
        long h = 31 * before + from.count;
        for (int k = 0; k < from.count; k++) {
            h = 31 * h + from.at(k);
        }
        return h;
    }

    private static long nextDraw(long x) {
        return (x * 1103515245L + 12345L) % 2147483648L;
    }

    private static int opposite(int l) {
        return l < PLAIN_LETTERS ? l + PLAIN_LETTERS : l - PLAIN_LETTERS;
    }

    /** LETTERS in a row; whatever is put behind them leaves them REDUCED. */
    private static final class Row {
        private final int[] letters;
        private int count;

        Row(int room) {
            letters = new int[Math.max(0, room)];
        }

        int at(int k) {
            return k >= 0 && k < count && k < letters.length ? letters[k] : NONE;
        }

        void wipe() {
            count = 0;
        }

        void put(int l) {
            if (l < 0 || l >= ALL_LETTERS) {
                return;
            }
            if (count > 0 && at(count - 1) == opposite(l)) {
                count--;
            } else if (count < letters.length) {
                letters[count] = l;
                count++;
            }
        }

        void copy(Row from) {
            int many = Math.min(from.count, Math.min(from.letters.length, letters.length));
            for (int k = 0; k < many; k++) {
                letters[k] = from.letters[k];
            }
            count = many;
        }

        void putRow(Row from) {
            putPart(from, 0, from.count);
        }

        void putPart(Row from, int start, int end) {
            for (int k = start; k < end; k++) {
                put(from.at(k));
            }
        }

        void putInverse(Row from) {
            for (int k = from.count - 1; k >= 0; k--) {
                put(opposite(from.at(k)));
            }
        }

        void putTurn(Row from, int n) {
            putPart(from, n, from.count);
            putPart(from, 0, Math.min(n, from.count));
        }

        void cutToRing() {
            int ends = 0;
            while (2 * ends + 1 < count && at(ends) == opposite(at(count - 1 - ends))) {
                ends++;
            }
            int left = count - 2 * ends;
            for (int k = 0; k < left && k + ends < letters.length; k++) {
                letters[k] = letters[k + ends];
            }
            count = left;
        }

        /** How many LETTERS from place i on are as the other row begins. */
        int likeFrom(int i, Row other) {
            if (i < 0) {
                return 0;
            }
            int most = Math.min(count - i, other.count);
            int l = 0;
            while (l < most && at(i + l) == other.at(l)) {
                l++;
            }
            return l;
        }

        /** How often LETTER l is here, its OPPOSITE counting less. */
        int surplusOf(int l) {
            int surplus = 0;
            for (int k = 0; k < count; k++) {
                if (at(k) == l) {
                    surplus++;
                } else if (at(k) == opposite(l)) {
                    surplus--;
                }
            }
            return surplus;
        }
    }

    /** THE TEXT, and whether each of its bytes can stand where it does. */
    private static final class Text {
        private final int[] bytes = new int[TEXT_ROOM];
        private int size;
        private int depth;
        /** Whether something stands within what is open (the WORD, or the innermost bracket). */
        private boolean filled;
        private boolean factorJustEnded;
        private boolean wordEnded;

        boolean accept(int c) {
            if (size >= bytes.length) {
                return false;
            }
            bytes[size] = c;
            size++;
            return true;
        }

        int byteAt(int k) {
            return k >= 0 && k < size && k < bytes.length ? bytes[k] : NONE;
        }

        /** The place of the first byte that can not stand there, or NONE. */
        int wrongPlace() {
            depth = 0;
            filled = false;
            factorJustEnded = false;
            wordEnded = false;
            for (int k = 0; k < size; k++) {
                if (!standsNext(byteAt(k))) {
                    return k;
                }
            }
            return wordEnded && depth == 0 && !filled ? NONE : size;
        }

        private boolean standsNext(int c) {
            boolean figureMayCome = factorJustEnded;
            factorJustEnded = false;
            if (c == ' ') {
                return true;
            }
            if (figureFor(c) != NONE) {
                return figureMayCome;
            }
            if (letterFor(c) != NONE) {
                return factorEnds();
            }
            switch (c) {
                case '(':
                    return bracketOpens();
                case ')':
                    return bracketCloses();
                case ';':
                    return wordEnds();
                default:
                    return false;
            }
        }

        private boolean factorEnds() {
            filled = true;
            factorJustEnded = true;
            return true;
        }

        private boolean bracketOpens() {
            if (depth >= DEEPEST) {
                return false;
            }
            depth++;
            filled = false;
            return true;
        }

        private boolean bracketCloses() {
            if (depth == 0 || !filled) {
                return false;
            }
            depth--;
            return factorEnds();
        }

        private boolean wordEnds() {
            if (depth > 0 || !filled) {
                return false;
            }
            filled = false;
            wordEnded = true;
            return true;
        }

        static int letterFor(int c) {
            if (c >= 'a' && c <= 'd') {
                return c - 'a';
            }
            return c >= 'A' && c <= 'D' ? c - 'A' + PLAIN_LETTERS : NONE;
        }

        static int figureFor(int c) {
            return c >= '1' && c <= '9' ? c - '0' : NONE;
        }
    }

    /** Reads the WORDS of a TEXT whose bytes all can stand where they do. */
    private static final class Reader {
        private final Row[] read;
        private int count;
        /** The WORD that is read now, ahead of being REDUCED. */
        private final int[] raw = new int[WORD_ROOM];
        private int rawCount;
        private boolean tooLong;
        /** Where the FACTOR began that a figure would repeat. */
        private int factorStart;
        private final int[] openedAt = new int[DEEPEST];
        private int depth;

        Reader() {
            read = new Row[WORD_COUNT];
            for (int w = 0; w < WORD_COUNT; w++) {
                read[w] = new Row(WORD_ROOM);
            }
        }

        /** The place at which the first WORD begins that can not be taken, or NONE. */
        int readAll(Text text, int most, boolean asRelators) {
            count = 0;
            int begin = NONE;
            for (int k = 0; k < text.size; k++) {
                int c = text.byteAt(k);
                if (begin == NONE && c != ' ') {
                    begin = k;
                    startWord();
                }
                if (c != ';') {
                    readByte(c);
                } else if (takeWord(most, asRelators)) {
                    begin = NONE;
                } else {
                    return begin;
                }
            }
            return NONE;
        }

        private void startWord() {
            rawCount = 0;
            tooLong = false;
            factorStart = 0;
            depth = 0;
        }

        private void readByte(int c) {
            int l = Text.letterFor(c);
            int figure = Text.figureFor(c);
            if (l != NONE) {
                factorStart = rawCount;
                putRaw(l);
            } else if (figure != NONE) {
                repeatFactor(figure);
            } else if (c == '(' && depth < DEEPEST) {
                openedAt[depth] = rawCount;
                depth++;
            } else if (c == ')' && depth > 0) {
                depth--;
                factorStart = openedAt[depth];
            }
        }

        private void putRaw(int l) {
            if (rawCount < raw.length) {
                raw[rawCount] = l;
                rawCount++;
            } else {
                tooLong = true;
            }
        }

        private void repeatFactor(int figure) {
            int end = rawCount;
            for (int n = 1; n < figure; n++) {
                for (int k = factorStart; k >= 0 && k < end && k < raw.length; k++) {
                    putRaw(raw[k]);
                }
            }
        }

        private boolean takeWord(int most, boolean asRelator) {
            if (tooLong || count >= most || count >= read.length) {
                return false;
            }
            Row word = read[count];
            word.wipe();
            for (int k = 0; k < rawCount && k < raw.length; k++) {
                word.put(raw[k]);
            }
            if (asRelator) {
                word.cutToRing();
                if (word.count == 0 || word.count > RELATOR_ROOM) {
                    return false;
                }
            }
            count++;
            return true;
        }
    }

    /** The RELATORS, their MEMBERS and what these have in common. */
    private static final class Members {
        private final Row[] relator;
        private int relatorCount;
        private final int[] piece = new int[RELATOR_COUNT];
        private final int[] ownFirst = new int[RELATOR_COUNT];
        private final Row turning = new Row(RELATOR_ROOM);
        private final Row[] member;
        private int count;
        private int shortest = RELATOR_ROOM;
        /** By MEMBER, a bit for each RELATOR that it is a TURN of (or of its INVERSE). */
        private final int[] owners = new int[MEMBER_COUNT];
        /** By MEMBER, how long it begins like one ahead of it, at most. */
        private final int[] sharedAhead = new int[MEMBER_COUNT];
        /** The MEMBERS by their first LETTER, so that CUTS are looked for among few. */
        private final int[][] starters = new int[ALL_LETTERS][MEMBER_COUNT];
        private final int[] starterCount = new int[ALL_LETTERS];
        private final int[][] matrix = new int[RELATOR_COUNT][PLAIN_LETTERS];

        Members() {
            relator = new Row[RELATOR_COUNT];
            for (int r = 0; r < RELATOR_COUNT; r++) {
                relator[r] = new Row(RELATOR_ROOM);
            }
            member = new Row[MEMBER_COUNT];
            for (int m = 0; m < MEMBER_COUNT; m++) {
                member[m] = new Row(RELATOR_ROOM);
            }
        }

        void become(Reader from) {
            relatorCount = Math.min(from.count, RELATOR_COUNT);
            count = 0;
            shortest = RELATOR_ROOM;
            for (int l = 0; l < ALL_LETTERS; l++) {
                starterCount[l] = 0;
            }
            for (int r = 0; r < relatorCount; r++) {
                piece[r] = 0;
                ownFirst[r] = 0;
                relator[r].copy(from.read[r]);
                addTurns(r, relator[r]);
                turning.wipe();
                turning.putInverse(relator[r]);
                addTurns(r, turning);
            }
            measure();
        }

        private void addTurns(int r, Row of) {
            for (int t = 0; t < of.count && count < MEMBER_COUNT; t++) {
                Row next = member[count];
                next.wipe();
                next.putTurn(of, t);
                int earlier = earlierLike(next);
                if (earlier != NONE) {
                    owners[earlier] |= 1 << r;
                } else {
                    owners[count] = 1 << r;
                    ownFirst[r]++;
                    listByFirstLetter(next.at(0));
                    shortest = Math.min(shortest, next.count);
                    count++;
                }
            }
        }

        /** The MEMBER that is like the one that would be next, or NONE. */
        private int earlierLike(Row next) {
            for (int m = 0; m < count && m < MEMBER_COUNT; m++) {
                if (member[m].count == next.count && matchAt(next, 0, m) == next.count) {
                    return m;
                }
            }
            return NONE;
        }

        private void listByFirstLetter(int l) {
            if (l >= 0 && l < ALL_LETTERS && starterCount[l] < MEMBER_COUNT) {
                starters[l][starterCount[l]] = count;
                starterCount[l]++;
            }
        }

        private void measure() {
            for (int m = 0; m < count; m++) {
                sharedAhead[m] = 0;
                for (int o = 0; o < m; o++) {
                    int shared = sharedStart(o, m);
                    sharedAhead[m] = Math.max(sharedAhead[m], shared);
                    notePiece(owners[o] | owners[m], shared);
                }
            }
        }

        private void notePiece(int ofWhich, int shared) {
            for (int r = 0; r < relatorCount; r++) {
                if ((ofWhich >> r & 1) == 1) {
                    piece[r] = Math.max(piece[r], shared);
                }
            }
        }

        boolean has(int m) {
            return m >= 0 && m < count;
        }

        int sizeOf(int m) {
            return has(m) ? member[m].count : 0;
        }

        int letterOf(int m, int k) {
            return has(m) ? member[m].at(k) : NONE;
        }

        int sharedStart(int m, int o) {
            return has(m) && has(o) ? member[m].likeFrom(0, member[o]) : 0;
        }

        /** How many LETTERS of a word from place i on are as MEMBER m begins. */
        int matchAt(Row word, int i, int m) {
            return has(m) ? word.likeFrom(i, member[m]) : 0;
        }

        /** Whether MEMBER m begins with that many LETTERS as none ahead of it does. */
        boolean beginsFresh(int m, int letters) {
            return sizeOf(m) >= letters && has(m) && sharedAhead[m] < letters;
        }

        int startersWith(int l) {
            return l >= 0 && l < ALL_LETTERS ? starterCount[l] : 0;
        }

        int starter(int l, int k) {
            return k >= 0 && k < startersWith(l) ? starters[l][k] : NONE;
        }

        boolean areGood(int n) {
            for (int r = 0; r < relatorCount; r++) {
                if (n * piece[r] >= relator[r].count) {
                    return false;
                }
            }
            return true;
        }

        int rankBy(int p) {
            if (p < 2) {
                return 0;
            }
            for (int r = 0; r < relatorCount; r++) {
                for (int l = 0; l < PLAIN_LETTERS; l++) {
                    matrix[r][l] = Math.floorMod(relator[r].surplusOf(l), p);
                }
            }
            int rank = 0;
            for (int l = 0; l < PLAIN_LETTERS && rank < relatorCount; l++) {
                if (bringPivot(rank, l)) {
                    clearBelow(rank, l, p);
                    rank++;
                }
            }
            return rank;
        }

        /** Swaps a line that has something in column l to the place of line top. */
        private boolean bringPivot(int top, int l) {
            for (int r = top; r < relatorCount; r++) {
                if (matrix[r][l] != 0) {
                    for (int k = 0; k < PLAIN_LETTERS; k++) {
                        int upper = matrix[top][k];
                        matrix[top][k] = matrix[r][k];
                        matrix[r][k] = upper;
                    }
                    return true;
                }
            }
            return false;
        }

        /** Multiplying across instead of dividing keeps the rank, as p is a prime. */
        private void clearBelow(int top, int l, int p) {
            int pivot = matrix[top][l];
            for (int r = top + 1; r < relatorCount; r++) {
                int lead = matrix[r][l];
                for (int k = 0; k < PLAIN_LETTERS && p > 0; k++) {
                    matrix[r][k] = Math.floorMod(matrix[r][k] * pivot - matrix[top][k] * lead, p);
                }
            }
        }
    }

    /** Looks for CUTS, takes one as THE CHOOSER does, and does it. */
    private static final class Shortening {
        private final Members members;
        private final Row spare = new Row(WORD_ROOM);
        private int kind = FIRST;
        private int place;
        private int member;
        private int matched;
        private int saved;

        Shortening(Members of) {
            members = of;
        }

        /** How many CUTS there are; the one that is taken is left in the fields. */
        int seek(Row word) {
            int found = 0;
            // nearer to the end than half the shortest MEMBER no CUT can begin
            for (int i = 0; i < word.count && 2 * (word.count - i) > members.shortest; i++) {
                int first = word.at(i);
                int many = members.startersWith(first);
                for (int k = 0; k < many; k++) {
                    int m = members.starter(first, k);
                    int l = members.matchAt(word, i, m);
                    int saves = 2 * l - members.sizeOf(m);
                    if (saves > 0) {
                        if (found == 0 || isBetter(i, l, saves)) {
                            take(i, m, l);
                        }
                        found++;
                    }
                }
            }
            return found;
        }

        private boolean isBetter(int i, int l, int saves) {
            switch (kind) {
                case LAST:
                    return i > place || l > matched;
                case GREEDY:
                    return saves > saved;
                case SHY:
                    return saves < saved;
                case LONG:
                    return l > matched;
                default:
                    return i == place && l > matched;
            }
        }

        private void take(int i, int m, int l) {
            place = i;
            member = m;
            matched = l;
            saved = 2 * l - members.sizeOf(m);
        }

        /** Does the CUT that was taken last. */
        void doCut(Row word) {
            spare.wipe();
            spare.putPart(word, 0, place);
            for (int k = members.sizeOf(member) - 1; k >= matched; k--) {
                spare.put(opposite(members.letterOf(member, k)));
            }
            spare.putPart(word, place + matched, word.count);
            word.copy(spare);
        }

        /** SHORTENS the word: how many CUTS. Each leaves fewer LETTERS, so there are 60 at most. */
        int doAll(Row word) {
            for (int done = 0; done < WORD_ROOM; done++) {
                if (seek(word) == 0) {
                    return done;
                }
                doCut(word);
            }
            return WORD_ROOM;
        }

        /** Does the CUTS up to the k-th; false: there are not so many. */
        boolean doThrough(Row word, int k) {
            if (k >= WORD_ROOM) {
                return false;
            }
            for (int done = 0; done <= k; done++) {
                if (seek(word) == 0) {
                    return false;
                }
                doCut(word);
            }
            return true;
        }
    }
}
