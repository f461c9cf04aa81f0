import java.util.Arrays;

/** Standing queries over letters that come in; the document DOC.md says what each call promises. */
public final class StandingQueries {
    public static final int BAD = -1, STATE = -2, FULL = -3, NONE = -9;

    private static final int MOST_QUERIES = 8, MOST_PARTS = 4, MOST_WORDS = 16, MOST_LETTERS = 40;
    private static final int MOST_BYTES = 150, MOST_UNDONE = 10, IMAGES = 2;
    private static final int MOST_SOUGHT = 60, MOST_COUNTED = 12;
    private static final int WORD_LETTERS = 6, ALPHABET = 8, FIRST_LETTER = 97;
    private static final int HAS = 0, LACKS = 1, NEAR = 2;
    private static final int FAULT_BASE = -10;

    private final Text text = new Text();
    private final Held held = new Held();
    private final History history = new History();
    private final Held[] images = new Held[IMAGES];
    private final Words words = new Words(MOST_WORDS);
    private final Automaton automaton = new Automaton(MOST_WORDS);
    private final long[] hits = new long[MOST_WORDS];
    private int at;
    private Search search;

    public StandingQueries() {
    }

    // ---- what is done

    public int type(int c) {
        if (c < 0 || c > 255) {
            return BAD;
        }
        return text.append(c) ? text.size : FULL;
    }

    public int clear() {
        int had = text.size;
        text.size = 0;
        return had;
    }

    public int adds() {
        int fault = text.readBehind(held);
        if (fault >= 0) {
            return FAULT_BASE - fault;
        }
        int told = text.draft.queries - held.queries;
        history.push(held);
        held.take(text.draft);
        text.size = 0;
        rebuild();
        return told;
    }

    public int drops(int q) {
        if (!isQuery(q)) {
            return BAD;
        }
        history.push(held);
        held.dropQuery(q);
        rebuild();
        return held.queries;
    }

    public int feeds(int letter) {
        if (!isLetter(letter)) {
            return BAD;
        }
        if (held.letters >= MOST_LETTERS) {
            return FULL;
        }
        history.push(held);
        held.row[held.letters] = letter - FIRST_LETTER;
        held.letters++;
        walk();
        return at;
    }

    public int cuts() {
        if (held.letters <= 0) {
            return STATE;
        }
        history.push(held);
        held.letters--;
        int letter = held.row[held.letters] + FIRST_LETTER;
        walk();
        return letter;
    }

    public int undo() {
        if (!history.popInto(held)) {
            return STATE;
        }
        rebuild();
        return history.known;
    }

    // ---- queries

    public int query(int q, int what) {
        if (!isQuery(q)) {
            return BAD;
        }
        switch (what) {
            case 0:
                return held.parts[q];
            case 1:
                return matches(q, held.letters) ? 1 : 0;
            case 2:
                return since(q);
            case 3:
                return words.find(keyOf(q));
            case 4:
                return isAsked(q) ? 1 : 0;
            default:
                return BAD;
        }
    }

    public int part(int q, int k, int what) {
        if (!isQuery(q) || k < 0 || k >= held.parts[q]) {
            return BAD;
        }
        int p = held.place(q, k);
        switch (what) {
            case 0:
                return held.sort[p];
            case 1:
                return words.find(held.word[p]);
            case 2:
                return words.find(held.earlier[p]);
            case 3:
                return held.sort[p] == NEAR ? held.reach[p] : NONE;
            case 4:
                return holds(p, held.letters) ? 1 : 0;
            default:
                return BAD;
        }
    }

    public int shortest(int q, int k) {
        if (!isQuery(q) || k < -1) {
            return BAD;
        }
        Search sought = searchFor(q);
        int size = sought.fewestFrom(0);
        if (k == -1 || size < 0) {
            return size;
        }
        return k < size ? sought.letterOfRow(k, size) + FIRST_LETTER : NONE;
    }

    public int more(int q) {
        if (!isQuery(q)) {
            return BAD;
        }
        Search sought = searchFor(q);
        return sought.fewestFrom(sought.stateBehind(held));
    }

    public long many(int q, int n) {
        if (!isQuery(q) || n < 0 || n > MOST_COUNTED) {
            return BAD;
        }
        return searchFor(q).rowsOf(n);
    }

    // ---- words, nodes, letters

    public int word(int w, int i) {
        if (!isWord(w) || i < -1) {
            return BAD;
        }
        int code = words.codes[w];
        int size = Packed.sizeOf(code);
        if (i == -1) {
            return size;
        }
        return i < size ? Packed.letterAt(code, i) + FIRST_LETTER : NONE;
    }

    public int hit(int w, int k) {
        if (!isWord(w) || k < -1) {
            return BAD;
        }
        return k == -1 ? Long.bitCount(hits[w]) : placeOfBit(hits[w], k);
    }

    public int node(int n, int what) {
        if (!isNode(n)) {
            return BAD;
        }
        switch (what) {
            case 0:
                return automaton.size[n];
            case 1:
                return n == 0 ? NONE : automaton.last[n] + FIRST_LETTER;
            case 2:
                return n == 0 ? NONE : automaton.parent[n];
            case 3:
                return n == 0 ? NONE : automaton.fail[n];
            case 4:
                return automaton.ends[n];
            default:
                return BAD;
        }
    }

    public int next(int n, int letter) {
        if (!isNode(n) || !isLetter(letter)) {
            return BAD;
        }
        return automaton.follow[n * ALPHABET + letter - FIRST_LETTER];
    }

    public int letter(int i) {
        if (i < 0 || i >= held.letters) {
            return BAD;
        }
        return held.row[i] + FIRST_LETTER;
    }

    public int now(int what) {
        switch (what) {
            case 0:
                return at;
            case 1:
                return matching(held.letters);
            case 2:
                return matching(held.letters) & ~matching(withoutLast());
            case 3:
                return matching(withoutLast()) & ~matching(held.letters);
            case 4:
                return asked();
            case 5:
                return allHits();
            default:
                return BAD;
        }
    }

    // ---- images

    public int keep(int image) {
        if (image < 0 || image >= IMAGES) {
            return BAD;
        }
        Held kept = images[image];
        if (kept == null) {
            kept = new Held();
            images[image] = kept;
        }
        kept.take(held);
        return held.queries;
    }

    public int back(int image) {
        if (image < 0 || image >= IMAGES) {
            return BAD;
        }
        Held kept = images[image];
        if (kept == null) {
            return STATE;
        }
        held.take(kept);
        history.forget();
        rebuild();
        return held.queries;
    }

    public int count(int what) {
        switch (what) {
            case 0:
                return held.queries;
            case 1:
                return words.count;
            case 2:
                return automaton.nodes;
            case 3:
                return held.letters;
            case 4:
                return history.known;
            case 5:
                return text.size;
            default:
                return BAD;
        }
    }

    // ---- what the calls stand on

    private boolean isQuery(int q) {
        return q >= 0 && q < held.queries;
    }

    private boolean isWord(int w) {
        return w >= 0 && w < words.count;
    }

    private boolean isNode(int n) {
        return n >= 0 && n < automaton.nodes;
    }

    private static boolean isLetter(int letter) {
        return letter >= FIRST_LETTER && letter < FIRST_LETTER + ALPHABET;
    }

    /** Words are numbered over all queries, so a query that comes or goes may renumber words and nodes. */
    private void rebuild() {
        words.gatherAll(held);
        automaton.build(words);
        walk();
    }

    /** Hits are bits by the number of the letter: 40 letters leave room for a shift by any d. */
    private void walk() {
        Arrays.fill(hits, 0L);
        at = 0;
        for (int i = 0; i < held.letters; i++) {
            at = automaton.follow[at * ALPHABET + held.row[i]];
            int ends = automaton.ends[at];
            for (int w = 0; w < words.count; w++) {
                if (((ends >> w) & 1) != 0) {
                    hits[w] |= 1L << i;
                }
            }
        }
    }

    private long hitsOf(int code) {
        int w = words.find(code);
        return w < 0 ? 0L : hits[w];
    }

    private static int placeOfBit(long bits, int k) {
        int seen = 0;
        for (int i = 0; i < MOST_LETTERS; i++) {
            if (((bits >> i) & 1L) != 0L) {
                if (seen == k) {
                    return i;
                }
                seen++;
            }
        }
        return NONE;
    }

    private int allHits() {
        int all = 0;
        for (int w = 0; w < words.count; w++) {
            all += Long.bitCount(hits[w]);
        }
        return all;
    }

    /** Whether the part at place p of the parts holds with the first n letters alone. */
    private boolean holds(int p, int n) {
        long ends = hitsOf(held.word[p]) & ((1L << n) - 1L);
        switch (held.sort[p]) {
            case HAS:
                return ends != 0L;
            case LACKS:
                return ends == 0L;
            default:
                return isNear(hitsOf(held.earlier[p]), ends, held.reach[p]);
        }
    }

    private static boolean isNear(long earlier, long ends, int reach) {
        for (int d = 1; d <= reach; d++) {
            if (((earlier << d) & ends) != 0L) {
                return true;
            }
        }
        return false;
    }

    private boolean matches(int q, int n) {
        for (int k = 0; k < held.parts[q]; k++) {
            if (!holds(held.place(q, k), n)) {
                return false;
            }
        }
        return true;
    }

    private int matching(int n) {
        int bits = 0;
        for (int q = 0; q < held.queries; q++) {
            if (matches(q, n)) {
                bits |= 1 << q;
            }
        }
        return bits;
    }

    /** Without letters this is all of them, so that nothing is told and nothing gone. */
    private int withoutLast() {
        return Math.max(0, held.letters - 1);
    }

    private int since(int q) {
        int n = held.letters;
        if (!matches(q, n)) {
            return NONE;
        }
        while (n > 0 && matches(q, n - 1)) {
            n--;
        }
        return n;
    }

    /** The packed key of a query, or no word. */
    private int keyOf(int q) {
        int key = Packed.NO_WORD;
        for (int k = 0; k < held.parts[q]; k++) {
            int p = held.place(q, k);
            if (held.sort[p] == HAS && isBetterKey(held.word[p], key)) {
                key = held.word[p];
            }
        }
        return key;
    }

    private static boolean isBetterKey(int code, int key) {
        int longer = Packed.sizeOf(code) - Packed.sizeOf(key);
        return longer > 0 || (longer == 0 && code < key);
    }

    private boolean isAsked(int q) {
        int key = keyOf(q);
        return key == Packed.NO_WORD || hitsOf(key) != 0L;
    }

    private int asked() {
        int bits = 0;
        for (int q = 0; q < held.queries; q++) {
            if (isAsked(q)) {
                bits |= 1 << q;
            }
        }
        return bits;
    }

    /** Its rows are large, so that an object that is never asked for them does without. */
    private Search searchFor(int q) {
        Search sought = search;
        if (sought == null) {
            sought = new Search();
            search = sought;
        }
        sought.prepare(held, q);
        return sought;
    }

    /**
     * Words in an int, four bits a letter (a 1 .. h 8), the first letter highest:
     * as numbers they stand in the order in which the document numbers words.
     */
    private static final class Packed {
        private static final int NO_WORD = 0, BITS = 4, MASK = 15;

        private static int shiftOf(int i) {
            return BITS * (WORD_LETTERS - 1 - i);
        }

        static int sizeOf(int code) {
            int size = 0;
            for (int i = 0; i < WORD_LETTERS; i++) {
                if (((code >> shiftOf(i)) & MASK) != 0) {
                    size++;
                }
            }
            return size;
        }

        /** Letter i, 0 .. 7, of a word that has more than i. */
        static int letterAt(int code, int i) {
            return Math.max(0, ((code >> shiftOf(i)) & MASK) - 1);
        }

        static int withLetter(int code, int i, int letter) {
            return code | (letter + 1) << shiftOf(i);
        }

        /** The first letters of a word, size of them, at least one. */
        static int headOf(int code, int size) {
            return (code >> shiftOf(size - 1)) << shiftOf(size - 1);
        }
    }

    /** Queries and letters: what an image keeps, and what undo brings again. */
    private static final class Held {
        int queries;
        int letters;
        final int[] parts = new int[MOST_QUERIES];
        final int[] sort = new int[MOST_QUERIES * MOST_PARTS];
        final int[] word = new int[MOST_QUERIES * MOST_PARTS];
        final int[] earlier = new int[MOST_QUERIES * MOST_PARTS];
        final int[] reach = new int[MOST_QUERIES * MOST_PARTS];
        final int[] row = new int[MOST_LETTERS];

        int place(int q, int k) {
            return q * MOST_PARTS + k;
        }

        void take(Held other) {
            queries = other.queries;
            letters = other.letters;
            System.arraycopy(other.parts, 0, parts, 0, parts.length);
            System.arraycopy(other.sort, 0, sort, 0, sort.length);
            System.arraycopy(other.word, 0, word, 0, word.length);
            System.arraycopy(other.earlier, 0, earlier, 0, earlier.length);
            System.arraycopy(other.reach, 0, reach, 0, reach.length);
            System.arraycopy(other.row, 0, row, 0, row.length);
        }

        boolean startQuery() {
            if (queries >= MOST_QUERIES) {
                return false;
            }
            parts[queries] = 0;
            queries++;
            return true;
        }

        int partsOfLast() {
            return queries > 0 ? parts[queries - 1] : 0;
        }

        boolean lastHasNear() {
            for (int k = 0; k < partsOfLast(); k++) {
                if (sort[place(queries - 1, k)] == NEAR) {
                    return true;
                }
            }
            return false;
        }

        void addPart(int kind, int code, int earlierCode, int d) {
            if (queries <= 0 || partsOfLast() >= MOST_PARTS) {
                return;
            }
            int p = place(queries - 1, partsOfLast());
            sort[p] = kind;
            word[p] = code;
            earlier[p] = earlierCode;
            reach[p] = d;
            parts[queries - 1]++;
        }

        void dropQuery(int q) {
            for (int i = q; i + 1 < queries; i++) {
                parts[i] = parts[i + 1];
                for (int k = 0; k < MOST_PARTS; k++) {
                    movePart(place(i + 1, k), place(i, k));
                }
            }
            queries--;
        }

        private void movePart(int from, int to) {
            sort[to] = sort[from];
            word[to] = word[from];
            earlier[to] = earlier[from];
            reach[to] = reach[from];
        }
    }

    /** What was held ahead of the latest changes; the oldest is written over. */
    private static final class History {
        private final Held[] ring = new Held[MOST_UNDONE];
        private int latest;
        int known;

        void push(Held held) {
            latest = (latest + 1) % MOST_UNDONE;
            Held slot = ring[latest];
            if (slot == null) {
                slot = new Held();
                ring[latest] = slot;
            }
            slot.take(held);
            known = Math.min(known + 1, MOST_UNDONE);
        }

        boolean popInto(Held held) {
            Held slot = ring[latest];
            if (known <= 0 || slot == null) {
                return false;
            }
            held.take(slot);
            latest = (latest + MOST_UNDONE - 1) % MOST_UNDONE;
            known--;
            return true;
        }

        void forget() {
            known = 0;
        }
    }

    /** Unlike words in their order; a word's number is its place. */
    private static final class Words {
        final int[] codes;
        int count;

        Words(int most) {
            codes = new int[most];
        }

        int find(int code) {
            for (int w = 0; w < count; w++) {
                if (codes[w] == code) {
                    return w;
                }
            }
            return NONE;
        }

        /** Whether the word is among them then: a new one is not, if they are full. */
        boolean put(int code) {
            if (find(code) >= 0) {
                return true;
            }
            if (count >= codes.length) {
                return false;
            }
            int w = count;
            while (w > 0 && codes[w - 1] > code) {
                codes[w] = codes[w - 1];
                w--;
            }
            codes[w] = code;
            count++;
            return true;
        }

        void gatherAll(Held held) {
            count = 0;
            for (int q = 0; q < held.queries; q++) {
                putWordsOf(held, q);
            }
        }

        void gatherOne(Held held, int q) {
            count = 0;
            putWordsOf(held, q);
        }

        private void putWordsOf(Held held, int q) {
            for (int k = 0; k < held.parts[q]; k++) {
                int p = held.place(q, k);
                put(held.word[p]);
                if (held.sort[p] == NEAR) {
                    put(held.earlier[p]);
                }
            }
        }
    }

    /** Bytes, read token by token; the token at hand is the fault, as soon as it can't stand. */
    private static final class Text {
        private static final int END = 0, LETTERS = 1, NUMERAL = 2, STOP = 3, WRONG = 4;

        private final int[] bytes = new int[MOST_BYTES];
        int size;
        final Held draft = new Held();
        private final Words words = new Words(MOST_WORDS);
        private int begin;
        private int end;
        private int kind;
        private int queriesBefore;

        boolean append(int c) {
            if (size >= MOST_BYTES) {
                return false;
            }
            bytes[size] = c;
            size++;
            return true;
        }

        /** The draft becomes what is held with the queries told behind it: the place of the fault, or NONE. */
        int readBehind(Held held) {
            draft.take(held);
            queriesBefore = held.queries;
            words.gatherAll(held);
            end = 0;
            advance();
            for (int items = 0; items < MOST_BYTES && kind != END; items++) {
                if (!readItem()) {
                    return begin;
                }
            }
            return lacksParts() ? begin : NONE;
        }

        private boolean hasOpenQuery() {
            return draft.queries > queriesBefore;
        }

        private boolean lacksParts() {
            return hasOpenQuery() && draft.partsOfLast() == 0;
        }

        private boolean mayHavePart() {
            return hasOpenQuery() && draft.partsOfLast() < MOST_PARTS;
        }

        private boolean readItem() {
            if (kind != LETTERS || end - begin != 1) {
                return false;
            }
            switch (bytes[begin]) {
                case 'q':
                    return readQuery();
                case 'h':
                    return readPart(HAS);
                case 'n':
                    return readPart(LACKS);
                case 'p':
                    return readNear();
                default:
                    return false;
            }
        }

        private boolean readQuery() {
            if (lacksParts() || !draft.startQuery()) {
                return false;
            }
            advance();
            return readStop();
        }

        private boolean readPart(int sort) {
            if (!mayHavePart()) {
                return false;
            }
            advance();
            int code = readWord();
            if (code == Packed.NO_WORD) {
                return false;
            }
            draft.addPart(sort, code, Packed.NO_WORD, 0);
            return readStop();
        }

        private boolean readNear() {
            if (!mayHavePart() || draft.lastHasNear()) {
                return false;
            }
            advance();
            int earlier = readWord();
            if (earlier == Packed.NO_WORD) {
                return false;
            }
            int code = readWord();
            if (code == Packed.NO_WORD) {
                return false;
            }
            if (kind != NUMERAL || end - begin != 1 || bytes[begin] == '0') {
                return false;
            }
            draft.addPart(NEAR, code, earlier, bytes[begin] - '0');
            advance();
            return readStop();
        }

        private boolean readStop() {
            if (kind != STOP) {
                return false;
            }
            advance();
            return true;
        }

        /** The packed word, or no word: the token at hand stays the fault then. */
        private int readWord() {
            if (kind != LETTERS || end - begin > WORD_LETTERS) {
                return Packed.NO_WORD;
            }
            int code = Packed.NO_WORD;
            for (int i = begin; i < end; i++) {
                if (!isLetter(bytes[i])) {
                    return Packed.NO_WORD;
                }
                code = Packed.withLetter(code, i - begin, bytes[i] - FIRST_LETTER);
            }
            if (!words.put(code)) {
                return Packed.NO_WORD;
            }
            advance();
            return code;
        }

        private void advance() {
            begin = end;
            while (begin < size && bytes[begin] == ' ') {
                begin++;
            }
            end = begin;
            if (begin >= size) {
                kind = END;
                return;
            }
            kind = kindOf(bytes[begin]);
            end++;
            while (end < size && (kind == LETTERS || kind == NUMERAL) && kindOf(bytes[end]) == kind) {
                end++;
            }
        }

        private static int kindOf(int c) {
            if (c >= 'a' && c <= 'z') {
                return LETTERS;
            }
            if (c >= '0' && c <= '9') {
                return NUMERAL;
            }
            return c == ';' ? STOP : WRONG;
        }
    }

    /** All beginnings of words, with their links; node 0 is the empty one. */
    private static final class Automaton {
        int nodes = 1;
        final int[] size;
        final int[] last;
        final int[] parent;
        final int[] fail;
        final int[] ends;
        final int[] follow;
        private final int[] reached;

        Automaton(int mostWords) {
            int most = 1 + mostWords * WORD_LETTERS;
            size = new int[most];
            last = new int[most];
            parent = new int[most];
            fail = new int[most];
            ends = new int[most];
            follow = new int[most * ALPHABET];
            reached = new int[mostWords];
        }

        void build(Words words) {
            nodes = 1;
            Arrays.fill(follow, 0);
            Arrays.fill(ends, 0);
            Arrays.fill(reached, 0);
            for (int length = 1; length <= WORD_LETTERS; length++) {
                growTo(length, words);
            }
            link();
        }

        /** Words stand in order, so those that begin alike stand side by side. */
        private void growTo(int length, Words words) {
            int before = Packed.NO_WORD;
            for (int w = 0; w < words.count && w < reached.length; w++) {
                int code = words.codes[w];
                if (Packed.sizeOf(code) >= length) {
                    int head = Packed.headOf(code, length);
                    if (head != before) {
                        addNode(reached[w], Packed.letterAt(code, length - 1), length);
                    }
                    before = head;
                    reached[w] = nodes - 1;
                    if (head == code) {
                        ends[nodes - 1] |= 1 << w;
                    }
                }
            }
        }

        private void addNode(int from, int letter, int length) {
            if (nodes >= size.length) {
                return;
            }
            size[nodes] = length;
            last[nodes] = letter;
            parent[nodes] = from;
            follow[from * ALPHABET + letter] = nodes;
            nodes++;
        }

        /** Nodes stand by length, so that the link of each is whole before it is asked for. */
        private void link() {
            for (int n = 0; n < nodes; n++) {
                if (n > 0) {
                    ends[n] |= ends[fail[n]];
                }
                for (int letter = 0; letter < ALPHABET; letter++) {
                    int fallen = n == 0 ? 0 : follow[fail[n] * ALPHABET + letter];
                    int child = follow[n * ALPHABET + letter];
                    if (child == 0) {
                        follow[n * ALPHABET + letter] = fallen;
                    } else {
                        fail[child] = fallen;
                    }
                }
            }
        }
    }

    /**
     * Rows of letters that match one query. A state is a node of the query's own words, which
     * of its HAS parts hold, and how its NEAR part stands; a word that it lacks ends the row.
     */
    private static final class Search {
        private static final int MOST_OWN_WORDS = MOST_PARTS + 1;
        private static final int MOST_NODES = 1 + MOST_OWN_WORDS * WORD_LETTERS;
        private static final int NEAR_BITS = 4, NEAR_HELD = 10, DEAD = -1;
        private static final int MOST_STATES = MOST_NODES << (NEAR_BITS + MOST_PARTS - 1);
        private static final int LACKED = 16, EARLIER = 32, LATER = 64, HAS_MARKS = 15;
        private static final int UNSEEN = 0, START = -1;

        private final Words words = new Words(MOST_OWN_WORDS);
        private final Automaton automaton = new Automaton(MOST_OWN_WORDS);
        private final int[] marks = new int[MOST_NODES];
        private final int[] from = new int[MOST_STATES];
        private final int[] queue = new int[MOST_STATES];
        private long[] ways = new long[MOST_STATES];
        private long[] waysThen = new long[MOST_STATES];
        private int nearBits;
        private int reach;
        private int width;
        private int matched;
        private int states;
        private int found;

        void prepare(Held held, int q) {
            words.gatherOne(held, q);
            automaton.build(words);
            Arrays.fill(marks, 0);
            nearBits = 0;
            reach = 0;
            int has = 0;
            for (int k = 0; k < held.parts[q]; k++) {
                int p = held.place(q, k);
                if (held.sort[p] == HAS) {
                    markNodes(held.word[p], 1 << has);
                    has++;
                } else if (held.sort[p] == LACKS) {
                    markNodes(held.word[p], LACKED);
                } else {
                    markNodes(held.word[p], LATER);
                    markNodes(held.earlier[p], EARLIER);
                    nearBits = NEAR_BITS;
                    reach = held.reach[p];
                }
            }
            width = nearBits + has;
            matched = ((1 << has) - 1) << nearBits | (nearBits > 0 ? NEAR_HELD : 0);
            states = Math.min(automaton.nodes << width, MOST_STATES);
        }

        private void markNodes(int code, int mark) {
            int w = words.find(code);
            for (int n = 0; w >= 0 && n < automaton.nodes; n++) {
                if (((automaton.ends[n] >> w) & 1) != 0) {
                    marks[n] |= mark;
                }
            }
        }

        private boolean isMatch(int state) {
            return (state & ((1 << width) - 1)) == matched;
        }

        private int step(int state, int letter) {
            int node = automaton.follow[(state >> width) * ALPHABET + letter];
            int mark = marks[node];
            if ((mark & LACKED) != 0) {
                return DEAD;
            }
            int held = state & ((1 << width) - 1);
            int near = nearBits > 0 ? stepNear(held & ((1 << NEAR_BITS) - 1), mark) : 0;
            int has = (held >> nearBits) | (mark & HAS_MARKS);
            return node << width | has << nearBits | near;
        }

        /** How far the next letter is behind the latest earlier word: 0 if too far; or that the part holds. */
        private int stepNear(int near, int mark) {
            if (near == NEAR_HELD || (near > 0 && (mark & LATER) != 0)) {
                return NEAR_HELD;
            }
            if ((mark & EARLIER) != 0) {
                return 1;
            }
            return near > 0 && near < reach ? near + 1 : 0;
        }

        int stateBehind(Held held) {
            int state = 0;
            for (int i = 0; i < held.letters && state != DEAD; i++) {
                state = step(state, held.row[i]);
            }
            return state;
        }

        /** Each state is met first by the first row, by letters, of its fewest letters. */
        int fewestFrom(int start) {
            if (start < 0 || start >= states) {
                return NONE;
            }
            for (int state = 0; state < states; state++) {
                from[state] = UNSEEN;
            }
            from[start] = START;
            queue[0] = start;
            found = start;
            if (isMatch(start)) {
                return 0;
            }
            int first = 0;
            int behind = 1;
            for (int size = 1; size <= MOST_SOUGHT && first < behind; size++) {
                int levelEnd = behind;
                while (first < levelEnd) {
                    behind = spread(queue[first], behind);
                    if (isMatch(found)) {
                        return size;
                    }
                    first++;
                }
            }
            return NONE;
        }

        /** New states come behind the queue's end, up to one that matches: the new end. */
        private int spread(int state, int end) {
            int behind = end;
            for (int letter = 0; letter < ALPHABET; letter++) {
                int then = step(state, letter);
                if (then != DEAD && from[then] == UNSEEN) {
                    from[then] = 1 + state * ALPHABET + letter;
                    queue[behind] = then;
                    behind++;
                    if (isMatch(then)) {
                        found = then;
                        return behind;
                    }
                }
            }
            return behind;
        }

        /** Letter k of the row of so many letters that was found from state 0. */
        int letterOfRow(int k, int size) {
            int state = found;
            for (int i = size - 1; i > k && from[state] > 0; i--) {
                state = (from[state] - 1) / ALPHABET;
            }
            return Math.max(0, from[state] - 1) % ALPHABET;
        }

        long rowsOf(int n) {
            for (int state = 0; state < states; state++) {
                ways[state] = 0L;
            }
            ways[0] = 1L;
            for (int i = 0; i < n; i++) {
                lengthenRows();
            }
            long rows = 0L;
            for (int state = 0; state < states; state++) {
                if (isMatch(state)) {
                    rows += ways[state];
                }
            }
            return rows;
        }

        private void lengthenRows() {
            for (int state = 0; state < states; state++) {
                waysThen[state] = 0L;
            }
            for (int state = 0; state < states; state++) {
                for (int letter = 0; ways[state] != 0L && letter < ALPHABET; letter++) {
                    int then = step(state, letter);
                    if (then != DEAD) {
                        waysThen[then] += ways[state];
                    }
                }
            }
            long[] spare = ways;
            ways = waysThen;
            waysThen = spare;
        }
    }
}
