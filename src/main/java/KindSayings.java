/**
 * Sayings of kinds of things: in which worlds of few things they hold, what follows from them,
 * and what moods show of the plain ones, round by round.
 */
public final class KindSayings {
    public static final int BAD = -1, STATE = -2, FULL = -3, NONE = -9;

    private static final int SAYINGS = 10;
    private static final int SETS = 1 << SAYINGS;
    private static final int MOST_KINDS = 4;
    private static final int MOST_SORTS = 1 << MOST_KINDS;
    private static final int MOST_THINGS = 6;
    private static final int MOST_BYTES = 80;
    private static final int MOST_NUMBER = 6;
    private static final int MOST_PARTS = 24;
    private static final int MOST_OPEN = 8;
    private static final int NO_FAULT = -1;
    private static final int FAULT_BASE = -10;

    // The words of sayings, by their numbers.
    private static final int ALL = 0, SOME = 1, NO = 2, MOST = 3, LEAST = 4, JUST = 5, MORE = 6;
    private static final int NOT = 8;
    // Their letters, a byte each: all, some, no, most, least, just, more, even, not.
    private static final long[] WORDS = {
        0x616c6cL, 0x736f6d65L, 0x6e6fL, 0x6d6f7374L, 0x6c65617374L, 0x6a757374L, 0x6d6f7265L, 0x6576656eL,
        0x6e6f74L
    };

    // What the tokens are; a sign (: | & ! and brackets) is its own byte.
    private static final int END = 0, NO_TOKEN = 1, WORD = 2, NUMBER = 3, KIND = 4;

    // What facts say: 0 to 2 are the words all, some, no.
    private static final int NOT_ALL = 3;
    private static final int FACTS = 64;
    private static final long SOME_FACTS = 0xFFFFL << 16;
    private static final long NOT_ALL_FACTS = 0xFFFFL << 48;

    // The moods that differ in form from "first x m, second m y: x y".
    private static final int TURN_NO = 4, TURN_SOME = 5, LACK = 6, SAME = 7, THERE_IS = 8;
    private static final int MOODS = 9;
    // Of each mood: what it shows, what its first fact says and what its second (-9: it takes none).
    private static final int[] MOOD_SHOWS = {0, 2, 1, 3, 2, 1, 3, 0, 1};
    private static final int[] MOOD_FIRST = {0, 0, 1, 1, 2, 1, 3, -9, 0};
    private static final int[] MOOD_SECOND = {0, 2, 0, 2, -9, -9, 0, -9, -9};

    private final Saying[] sayings = new Saying[SAYINGS];
    private final int[] worldThings = new int[MOST_SORTS];
    private final Reader reader = new Reader();
    private final Heaps heapTable = new Heaps();
    private final Proof proof = new Proof();
    private int kindCount = 3;
    private int mostThings = 4;
    private int moodBits = 255;

    public KindSayings() {
        for (int i = 0; i < sayings.length; i++) {
            sayings[i] = new Saying();
        }
        startOver();
    }

    // ---- kinds, worlds

    public int kinds(int k) {
        if (k < 1 || k > MOST_KINDS) {
            return BAD;
        }
        int before = kindCount;
        kindCount = k;
        startOver();
        return before;
    }

    public int most(int v) {
        if (v < 1 || v > MOST_THINGS) {
            return BAD;
        }
        int before = mostThings;
        mostThings = v;
        heapTable.shape(sortCount(), mostThings);
        return before;
    }

    public int worlds() {
        return heapTable.total;
    }

    public int put(int sort, int n) {
        if (!isSort(sort) || n < 0 || n > MOST_THINGS) {
            return BAD;
        }
        int before = worldThings[sort];
        if (thingsAtHand() - before + n > MOST_THINGS) {
            return FULL;
        }
        worldThings[sort] = n;
        return before;
    }

    public int holds(int i) {
        Saying saying = sayingAt(i);
        if (saying == null) {
            return BAD;
        }
        int sum = sumAtHand(saying);
        return bit(saying.isTrue(sum));
    }

    public int size(int i, int what) {
        Saying saying = sayingAt(i);
        if (saying == null || what < 0 || what > 2) {
            return BAD;
        }
        return sumAtHand(saying) >> (4 * what) & 15;
    }

    // ---- sayings

    public int type(long v, int n) {
        if (n < 1 || n > 8) {
            return BAD;
        }
        Tokens text = reader.tokens;
        if (text.length + n > MOST_BYTES) {
            return FULL;
        }
        text.append(v, n);
        return text.length;
    }

    public int clear() {
        int before = reader.tokens.length;
        reader.tokens.length = 0;
        return before;
    }

    public int read(int i) {
        Saying saying = sayingAt(i);
        if (saying == null) {
            return BAD;
        }
        int fault = reader.readDraft(kindCount);
        if (fault != NO_FAULT) {
            return FAULT_BASE - fault;
        }
        saying.become(reader.draft);
        heapTable.stale |= 1 << i;
        reader.tokens.length = 0;
        return 1;
    }

    public int about(int i, int what) {
        Saying saying = sayingAt(i);
        if (saying == null) {
            return BAD;
        }
        switch (what) {
            case 0: return saying.word;
            case 1: return saying.first;
            case 2: return saying.second;
            case 3: return saying.number;
            case 4: return bit(saying.turned);
            case 5: return saying.fact;
            default: return BAD;
        }
    }

    // ---- what can be

    public int can(int set) {
        if (!isSet(set)) {
            return BAD;
        }
        return freshHeaps().worldsOf(set);
    }

    public int least(int set, int sort) {
        if (!isSet(set) || !isSortOrEvery(sort)) {
            return BAD;
        }
        Heaps table = freshHeaps();
        return table.thingsIn(table.firstWorld(set, 0), sort);
    }

    public int follows(int set, int i) {
        if (!isSet(set) || sayingAt(i) == null) {
            return BAD;
        }
        return bit(freshHeaps().isFollowing(set, i));
    }

    public int against(int set, int i, int sort) {
        if (!isSet(set) || sayingAt(i) == null || !isSortOrEvery(sort)) {
            return BAD;
        }
        Heaps table = freshHeaps();
        return table.thingsIn(table.firstWorld(set, 1 << i), sort);
    }

    public int unsaid(int set) {
        if (!isSet(set)) {
            return BAD;
        }
        Heaps table = freshHeaps();
        int bits = 0;
        for (int i = 0; i < SAYINGS; i++) {
            if (has(set, i) && table.isFollowing(set & ~(1 << i), i)) {
                bits |= 1 << i;
            }
        }
        return bits;
    }

    public int clash(int set, int what) {
        if (!isSet(set) || what < 0 || what > 1) {
            return BAD;
        }
        int fewest = freshHeaps().fewestClashing(set);
        if (fewest == NONE) {
            return NONE;
        }
        return what == 0 ? Integer.bitCount(fewest) : fewest;
    }

    public int ask(int set) {
        if (!isSet(set)) {
            return BAD;
        }
        Heaps table = freshHeaps();
        int all = table.worldsOf(set);
        if (all == 0) {
            return STATE;
        }
        int best = 0;
        int bestGreater = all + 1;
        for (int i = 0; i < SAYINGS; i++) {
            int holding = table.worldsOf(set | 1 << i);
            int greater = Math.max(holding, all - holding);
            if (greater < bestGreater) {
                bestGreater = greater;
                best = i;
            }
        }
        return best;
    }

    public int heaps(int set) {
        if (!isSet(set)) {
            return BAD;
        }
        return freshHeaps().heapsOf(set);
    }

    public int twin(int i) {
        if (sayingAt(i) == null) {
            return BAD;
        }
        Heaps table = freshHeaps();
        for (int other = 0; other < SAYINGS; other++) {
            if (other != i && table.isFollowing(1 << i, other) && table.isFollowing(1 << other, i)) {
                return other;
            }
        }
        return NONE;
    }

    // ---- moods

    public int moods(int bits) {
        if (bits < 0 || bits >= 1 << MOODS) {
            return BAD;
        }
        int before = moodBits;
        moodBits = bits;
        return before;
    }

    public int round(int set, int what, int x, int y) {
        if (!isSet(set) || !isFact(what, x, y)) {
            return BAD;
        }
        work(set);
        return proof.roundAt(factNumber(what, x, y));
    }

    public int by(int set, int what, int x, int y, int part) {
        if (!isSet(set) || !isFact(what, x, y) || part < 0 || part > 2) {
            return BAD;
        }
        work(set);
        return proof.step(factNumber(what, x, y), part);
    }

    public int shown(int set, int what) {
        if (!isSet(set) || what < 0 || what > 3) {
            return BAD;
        }
        work(set);
        long came = proof.facts();
        switch (what) {
            case 0: return Long.bitCount(came);
            case 1: return proof.lastRound;
            case 2: return bit(isQuarrel(came));
            default: return Long.bitCount(freshHeaps().factsOf(set) & everyFact() & ~came);
        }
    }

    public int count(int what) {
        switch (what) {
            case 0: return kindCount;
            case 1: return mostThings;
            case 2: return thingsAtHand();
            case 3: return reader.tokens.length;
            case 4: return plainSayings();
            default: return BAD;
        }
    }

    // ---- what the calls share

    /** All sayings as at first, the world at hand empty; the worlds are those of the kinds there are now. */
    private void startOver() {
        for (int i = 0; i < sayings.length; i++) {
            Saying saying = sayings[i];
            if (saying != null) {
                saying.becomeFirst(kindCount);
            }
        }
        for (int sort = 0; sort < worldThings.length; sort++) {
            worldThings[sort] = 0;
        }
        heapTable.shape(sortCount(), mostThings);
    }

    private Saying sayingAt(int i) {
        return i >= 0 && i < sayings.length ? sayings[i] : null;
    }

    private int sortCount() {
        return 1 << kindCount;
    }

    private boolean isSort(int sort) {
        return sort >= 0 && sort < sortCount() && sort < worldThings.length;
    }

    private boolean isSortOrEvery(int sort) {
        return sort == -1 || isSort(sort);
    }

    private boolean isFact(int what, int x, int y) {
        return what >= ALL && what <= NOT_ALL && x >= 0 && x < kindCount && y >= 0 && y < kindCount;
    }

    private int thingsAtHand() {
        int things = 0;
        for (int sort = 0; sort < worldThings.length; sort++) {
            things += worldThings[sort];
        }
        return things;
    }

    private int sumAtHand(Saying saying) {
        int sum = 0;
        for (int sort = 0; sort < worldThings.length; sort++) {
            sum += worldThings[sort] * saying.weight(sort);
        }
        return sum;
    }

    private Heaps freshHeaps() {
        heapTable.refresh(sayings);
        return heapTable;
    }

    /** Lets the moods work on what the plain sayings of a set tell. */
    private void work(int set) {
        long told = 0;
        for (int i = 0; i < sayings.length; i++) {
            Saying saying = sayings[i];
            if (has(set, i) && saying != null && saying.fact != NONE) {
                told |= 1L << saying.fact;
            }
        }
        proof.work(told, moodBits, kindCount);
    }

    private int plainSayings() {
        int bits = 0;
        for (int i = 0; i < sayings.length; i++) {
            Saying saying = sayings[i];
            if (saying != null && saying.fact != NONE) {
                bits |= 1 << i;
            }
        }
        return bits;
    }

    private long everyFact() {
        long every = 0;
        for (int what = ALL; what <= NOT_ALL; what++) {
            for (int x = 0; x < kindCount; x++) {
                for (int y = 0; y < kindCount; y++) {
                    every |= 1L << factNumber(what, x, y);
                }
            }
        }
        return every;
    }

    private static boolean isSet(int set) {
        return set >= 0 && set < SETS;
    }

    private static boolean has(int set, int i) {
        return (set >> i & 1) != 0;
    }

    private static int bit(boolean answer) {
        return answer ? 1 : 0;
    }

    private static int factNumber(int what, int x, int y) {
        return 16 * what + 4 * x + y;
    }

    private static boolean isQuarrel(long facts) {
        long all = facts & 0xFFFFL;
        long some = facts >>> 16 & 0xFFFFL;
        long no = facts >>> 32 & 0xFFFFL;
        long notAll = facts >>> 48;
        return (all & notAll) != 0 || (some & no) != 0;
    }

    /** The sorts of which things of a kind can be, as bits. */
    private static int sortsOfKind(int kind, int kinds) {
        int set = 0;
        for (int sort = 0; sort < MOST_SORTS; sort++) {
            if (has(sort, kind)) {
                set |= 1 << sort;
            }
        }
        return set & everySort(kinds);
    }

    private static int everySort(int kinds) {
        return (1 << (1 << kinds)) - 1;
    }

    /** A saying as it was understood. */
    private static final class Saying {
        int word;
        int number;
        int first;
        int second;
        int fact;
        boolean turned;

        void becomeFirst(int kinds) {
            word = ALL;
            number = 0;
            first = sortsOfKind(0, kinds);
            second = first;
            fact = factNumber(ALL, 0, 0);
            turned = false;
        }

        void become(Saying other) {
            word = other.word;
            number = other.number;
            first = other.first;
            second = other.second;
            fact = other.fact;
            turned = other.turned;
        }

        boolean isLike(Saying other) {
            return word == other.word && number == other.number && turned == other.turned
                && first == other.first && second == other.second;
        }

        /** What a thing of a sort adds to the three counts: of X, of Y (from bit 4), of both (from bit 8). */
        int weight(int sort) {
            int inFirst = first >> sort & 1;
            int inSecond = second >> sort & 1;
            return inFirst | inSecond << 4 | (inFirst & inSecond) << 8;
        }

        /** Whether it holds where the weights of all things come to this sum. */
        boolean isTrue(int sum) {
            return turned != isTrueUnturned(sum & 15, sum >> 4 & 15, sum >> 8 & 15);
        }

        private boolean isTrueUnturned(int x, int y, int both) {
            switch (word) {
                case ALL: return both == x;
                case SOME: return both > 0;
                case NO: return both == 0;
                case MOST: return 2 * both > x;
                case LEAST: return both >= number;
                case JUST: return both == number;
                case MORE: return x > y;
                default: return x == y;
            }
        }
    }

    /** The text, and its tokens one by one. */
    private static final class Tokens {
        private final char[] text = new char[MOST_BYTES];
        int length;
        int token;
        int value;
        int start;
        int passed;
        private int end;

        /** The lowest n bytes come behind the text, the highest of them first. */
        void append(long bytes, int n) {
            for (int i = n - 1; i >= 0 && length >= 0 && length < text.length; i--) {
                text[length] = (char) (bytes >>> (8 * i) & 255);
                length++;
            }
        }

        void begin() {
            end = 0;
            passed = -1;
            advance();
        }

        /** Passes the token at hand; the next one, or END at the text's length, is at hand then. */
        void advance() {
            passed++;
            while (end < length && byteAt(end) == ' ') {
                end++;
            }
            start = end;
            value = 0;
            int here = byteAt(start);
            if (here < 0) {
                token = END;
            } else if (isLetter(here)) {
                takeWord();
            } else if (isFigure(here)) {
                takeNumber();
            } else {
                takeSign(here);
            }
        }

        private void takeWord() {
            // Eight and more letters fill the code, so none of them looks like a word of five.
            long code = 0;
            while (end < length && isLetter(byteAt(end))) {
                code = code << 8 | byteAt(end);
                end++;
            }
            token = NO_TOKEN;
            for (int word = 0; word < WORDS.length; word++) {
                if (WORDS[word] == code) {
                    token = WORD;
                    value = word;
                }
            }
        }

        private void takeNumber() {
            while (end < length && isFigure(byteAt(end))) {
                // A long row of figures stays above every number that may stand.
                value = Math.min(10 * value + byteAt(end) - '0', 1000);
                end++;
            }
            boolean zeroAhead = byteAt(start) == '0' && end - start > 1;
            token = zeroAhead ? NO_TOKEN : NUMBER;
        }

        private void takeSign(int here) {
            end++;
            if (here >= 'A' && here < 'A' + MOST_KINDS) {
                token = KIND;
                value = here - 'A';
            } else if (here == ':' || here == '|' || here == '&' || here == '!' || here == '(' || here == ')') {
                token = here;
            } else {
                token = NO_TOKEN;
            }
        }

        private int byteAt(int at) {
            return at >= 0 && at < length && at < text.length ? text[at] : -1;
        }

        private static boolean isLetter(int code) {
            return code >= 'a' && code <= 'z';
        }

        private static boolean isFigure(int code) {
            return code >= '0' && code <= '9';
        }
    }

    /** Reads the text as a saying. */
    private static final class Reader {
        final Tokens tokens = new Tokens();
        final Saying draft = new Saying();
        private int kinds;
        private int parts;
        private int fault;
        private int loneKind;

        /** The text becomes the draft: NO_FAULT; or the fault's place. */
        int readDraft(int kindCount) {
            kinds = kindCount;
            parts = 0;
            fault = NO_FAULT;
            tokens.begin();
            readHead();
            draft.first = readSide();
            int x = loneKind;
            pass(':');
            draft.second = readSide();
            int y = loneKind;
            pass(END);
            draft.fact = factTold(x, y);
            return fault;
        }

        private void readHead() {
            draft.turned = tokens.token == WORD && tokens.value == NOT;
            if (draft.turned) {
                tokens.advance();
            }
            draft.word = tokens.value;
            draft.number = 0;
            if (tokens.token == WORD && tokens.value == NOT) {
                fail();
            }
            pass(WORD);
            if (draft.word == LEAST || draft.word == JUST) {
                readNumber();
            }
        }

        private void readNumber() {
            draft.number = tokens.value;
            if (tokens.token == NUMBER && tokens.value > MOST_NUMBER) {
                fail();
            }
            pass(NUMBER);
        }

        /** X or Y of a saying; loneKind is the kind that it is, if it is told by just one. */
        private int readSide() {
            int kind = tokens.value;
            int before = tokens.passed;
            int set = readUnion(0);
            loneKind = tokens.passed - before == 1 ? kind : NONE;
            return set;
        }

        private int readUnion(int open) {
            int set = readMeet(open);
            for (int i = 0; i < MOST_BYTES && fault == NO_FAULT && tokens.token == '|'; i++) {
                tokens.advance();
                set |= readMeet(open);
            }
            return set;
        }

        private int readMeet(int open) {
            int set = readPart(open);
            for (int i = 0; i < MOST_BYTES && fault == NO_FAULT && tokens.token == '&'; i++) {
                tokens.advance();
                set &= readPart(open);
            }
            return set;
        }

        private int readPart(int open) {
            int token = tokens.token;
            int kind = tokens.value;
            if (!isPart(token, kind, open)) {
                fail();
            }
            if (fault != NO_FAULT) {
                return 0;
            }
            parts++;
            tokens.advance();
            if (token == KIND) {
                return sortsOfKind(kind, kinds);
            }
            if (token == '!') {
                return everySort(kinds) & ~readPart(open + 1);
            }
            int set = readUnion(open + 1);
            pass(')');
            return set;
        }

        /** Whether a token can begin a part where so many brackets and ! are open. */
        private boolean isPart(int token, int kind, int open) {
            if (parts >= MOST_PARTS) {
                return false;
            }
            if (token == KIND) {
                return kind < kinds;
            }
            return (token == '!' || token == '(') && open < MOST_OPEN;
        }

        private void pass(int token) {
            if (tokens.token != token) {
                fail();
            }
            if (fault == NO_FAULT) {
                tokens.advance();
            }
        }

        private void fail() {
            if (fault == NO_FAULT) {
                fault = tokens.start;
            }
        }

        private int factTold(int x, int y) {
            if (x == NONE || y == NONE) {
                return NONE;
            }
            switch (draft.word) {
                case ALL: return factNumber(draft.turned ? NOT_ALL : ALL, x, y);
                case SOME: return factNumber(draft.turned ? NO : SOME, x, y);
                case NO: return factNumber(draft.turned ? SOME : NO, x, y);
                default: return NONE;
            }
        }
    }

    /** Goes through the worlds in their order: a world is the row of its things' sorts, never falling. */
    private static final class Walk {
        private final int[] sortOf = new int[MOST_THINGS];
        private final int[] weights = new int[MOST_SORTS];
        private final int[] sums = new int[MOST_THINGS + 1];
        private int sorts;
        private int most;
        private int things;

        /** To the world of no things; the walk adds up what a saying's counts are. */
        void begin(int sortCount, int mostThings, Saying saying) {
            for (int sort = 0; sort < weights.length; sort++) {
                weights[sort] = saying == null ? 0 : saying.weight(sort);
            }
            sorts = Math.min(sortCount, weights.length);
            most = Math.min(mostThings, sortOf.length);
            things = 0;
        }

        /** To the next world; whether there is one. */
        boolean advance() {
            int place = things - 1;
            while (place >= 0 && place < sortOf.length && sortOf[place] >= sorts - 1) {
                place--;
            }
            if (place >= 0 && place < sortOf.length) {
                fillFrom(place, sortOf[place] + 1);
                return true;
            }
            if (things >= most) {
                return false;
            }
            things++;
            fillFrom(0, 0);
            return true;
        }

        private void fillFrom(int place, int sort) {
            int weight = sort >= 0 && sort < weights.length ? weights[sort] : 0;
            for (int i = place; i >= 0 && i < things && i < sortOf.length && i + 1 < sums.length; i++) {
                sortOf[i] = sort;
                sums[i + 1] = sums[i] + weight;
            }
        }

        int sum() {
            return things >= 0 && things < sums.length ? sums[things] : 0;
        }

        /** What the things of the world are witnesses of, by the row that tells it of each sort. */
        long witnessed(long[] bySort) {
            long facts = 0;
            for (int i = 0; i < things && i < sortOf.length; i++) {
                int sort = sortOf[i];
                if (sort >= 0 && sort < bySort.length) {
                    facts |= bySort[sort];
                }
            }
            return facts;
        }
    }

    /**
     * The worlds, and the heaps into which they fall: a heap is named by the set of the sayings
     * that hold in its worlds. What hangs on which sayings hold is answered from the heaps alone.
     */
    private static final class Heaps {
        private final Walk walk = new Walk();
        private final int[] many = new int[SETS];
        private final int[] firsts = new int[SETS];
        private final int[] together = new int[SETS];
        private final long[] witness = new long[MOST_SORTS];
        // Of each world the sayings that hold; it grows only where more worlds are asked about than ever.
        private char[] marks = new char[0];
        private int sorts;
        private int most;
        int total;
        int stale;

        Heaps() {
            for (int sort = 0; sort < witness.length; sort++) {
                witness[sort] = witnessOf(sort);
            }
        }

        /** The facts "some" and "not all" that one thing of a sort makes true. */
        private static long witnessOf(int sort) {
            long facts = 0;
            for (int x = 0; x < MOST_KINDS; x++) {
                for (int y = 0; y < MOST_KINDS && has(sort, x); y++) {
                    facts |= 1L << factNumber(has(sort, y) ? SOME : NOT_ALL, x, y);
                }
            }
            return facts;
        }

        /** Which worlds there are; nothing is known then of which sayings hold in them. */
        void shape(int sortCount, int mostThings) {
            sorts = sortCount;
            most = mostThings;
            total = choose(sorts + most, most);
            stale = SETS - 1;
        }

        /** Goes through the worlds for the sayings that have changed, and makes the heaps anew. */
        void refresh(Saying[] sayings) {
            if (stale == 0) {
                return;
            }
            if (total > marks.length) {
                marks = new char[total];
            }
            for (int i = 0; i < sayings.length && i < SAYINGS; i++) {
                Saying saying = sayings[i];
                if (has(stale, i) && saying != null) {
                    int alike = stale & likes(sayings, saying);
                    mark(saying, alike);
                    stale &= ~alike;
                }
            }
            stale = 0;
            fillHeaps();
            addTogether();
        }

        /** The sayings told like one, it too: a walk serves them all, as at first it serves all ten. */
        private static int likes(Saying[] sayings, Saying saying) {
            int bits = 0;
            for (int i = 0; i < sayings.length && i < SAYINGS; i++) {
                Saying other = sayings[i];
                if (other != null && saying.isLike(other)) {
                    bits |= 1 << i;
                }
            }
            return bits;
        }

        private void mark(Saying saying, int bits) {
            walk.begin(sorts, most, saying);
            boolean more = true;
            for (int world = 0; world < total && world < marks.length && more; world++) {
                int others = marks[world] & ~bits;
                marks[world] = (char) (saying.isTrue(walk.sum()) ? others | bits : others);
                more = walk.advance();
            }
        }

        private void fillHeaps() {
            for (int heap = 0; heap < many.length; heap++) {
                many[heap] = 0;
            }
            for (int world = 0; world < total && world < marks.length; world++) {
                int heap = marks[world];
                if (heap < many.length && heap < firsts.length) {
                    if (many[heap] == 0) {
                        firsts[heap] = world;
                    }
                    many[heap]++;
                }
            }
        }

        /** Of each set, in how many worlds all of it hold: all heaps of that and more sayings. */
        private void addTogether() {
            for (int set = 0; set < together.length && set < many.length; set++) {
                together[set] = many[set];
            }
            for (int bit = 1; bit < SETS; bit <<= 1) {
                for (int set = 0; set < together.length; set++) {
                    int more = set | bit;
                    if (more != set && more < together.length) {
                        together[set] += together[more];
                    }
                }
            }
        }

        int worldsOf(int set) {
            return set >= 0 && set < together.length ? together[set] : 0;
        }

        boolean isFollowing(int set, int i) {
            return worldsOf(set) == worldsOf(set | 1 << i);
        }

        /** The number of the first world where all of a set hold and none of some others; NONE. */
        int firstWorld(int set, int others) {
            int first = NONE;
            for (int heap = 0; heap < many.length && heap < firsts.length; heap++) {
                boolean fits = many[heap] > 0 && (heap & set) == set && (heap & others) == 0;
                if (fits && (first == NONE || firsts[heap] < first)) {
                    first = firsts[heap];
                }
            }
            return first;
        }

        int heapsOf(int set) {
            int heaps = 0;
            for (int heap = 0; heap < many.length; heap++) {
                if (many[heap] > 0 && (heap & set) == set) {
                    heaps++;
                }
            }
            return heaps;
        }

        /** The least of the smallest parts of a set that hold in no world together; NONE. */
        int fewestClashing(int set) {
            int fewest = NONE;
            for (int part = 0; part < together.length; part++) {
                boolean clashes = (part & set) == part && together[part] == 0;
                if (clashes && (fewest == NONE || Integer.bitCount(part) < Integer.bitCount(fewest))) {
                    fewest = part;
                }
            }
            return fewest;
        }

        /** How many things of a sort (-1: of every sort) a world has by its number; NONE of NONE. */
        int thingsIn(int number, int sort) {
            if (number < 0) {
                return NONE;
            }
            int left = number;
            int things = 0;
            while (things < most && left >= rowsOf(sorts, things)) {
                left -= rowsOf(sorts, things);
                things++;
            }
            if (sort < 0) {
                return things;
            }
            int have = 0;
            for (int at = 0; at <= sort && at < sorts; at++) {
                have = things;
                while (have > 0 && left >= rowsOf(sorts - at - 1, things - have)) {
                    left -= rowsOf(sorts - at - 1, things - have);
                    have--;
                }
                things -= have;
            }
            return have;
        }

        /** In how many ways so many things can be of so many sorts. */
        private static int rowsOf(int sorts, int things) {
            return choose(sorts + things - 1, things);
        }

        private static int choose(int from, int many) {
            int ways = 1;
            for (int i = 1; i <= many; i++) {
                ways = ways * (from - many + i) / i;
            }
            return ways;
        }

        /** The facts that hold in all worlds of a set, those of kinds that there are not among them. */
        long factsOf(int set) {
            long always = -1L;
            long ever = 0;
            walk.begin(sorts, most, null);
            boolean more = true;
            for (int world = 0; world < total && world < marks.length && more; world++) {
                if ((marks[world] & set) == set) {
                    long facts = walk.witnessed(witness);
                    always &= facts;
                    ever |= facts;
                }
                more = walk.advance();
            }
            long no = (~ever & SOME_FACTS) << 16;
            long all = (~ever & NOT_ALL_FACTS) >>> 48;
            return always & (SOME_FACTS | NOT_ALL_FACTS) | no | all;
        }
    }

    /** What moods show of told facts, round by round. */
    private static final class Proof {
        private final int[] roundOf = new int[FACTS];
        private long told;
        // The facts of the rounds ahead of the one that is looked at.
        private long ahead;
        private int moods;
        private int kinds;
        private int firstFact;
        private int secondFact;
        int lastRound;

        void work(long toldFacts, int moodBits, int kindCount) {
            told = toldFacts;
            moods = moodBits;
            kinds = kindCount;
            lastRound = 0;
            for (int fact = 0; fact < roundOf.length; fact++) {
                boolean same = has(moods, SAME) && isSame(fact);
                roundOf[fact] = same || isTold(fact) ? 0 : NONE;
            }
            boolean more = true;
            for (int round = 1; round <= FACTS && more; round++) {
                ahead = factsAhead(round);
                more = isAnyComing(round);
                if (more) {
                    lastRound = round;
                }
            }
        }

        /** Lets come what is shown of the facts ahead of a round; whether any came. */
        private boolean isAnyComing(int round) {
            boolean any = false;
            for (int fact = 0; fact < roundOf.length; fact++) {
                if (isOfKinds(fact) && roundOf[fact] == NONE && leastMood(fact) != NONE) {
                    roundOf[fact] = round;
                    any = true;
                }
            }
            return any;
        }

        private boolean isTold(int fact) {
            return (told >>> fact & 1L) != 0;
        }

        private boolean isOfKinds(int fact) {
            return (fact >> 2 & 3) < kinds && (fact & 3) < kinds;
        }

        private boolean isSame(int fact) {
            return fact >> 4 == ALL && isOfKinds(fact) && (fact >> 2 & 3) == (fact & 3);
        }

        int roundAt(int fact) {
            return fact >= 0 && fact < roundOf.length ? roundOf[fact] : NONE;
        }

        /** All facts that ever come, as bits by their numbers. */
        long facts() {
            return factsAhead(FACTS + 1);
        }

        private long factsAhead(int round) {
            long bits = 0;
            for (int fact = 0; fact < roundOf.length; fact++) {
                if (roundOf[fact] != NONE && roundOf[fact] < round) {
                    bits |= 1L << fact;
                }
            }
            return bits;
        }

        /** By which mood (part 0) a fact comes, and of which first (1) and second fact (2). */
        int step(int fact, int part) {
            int round = roundAt(fact);
            if (round == NONE || isTold(fact)) {
                return NONE;
            }
            ahead = factsAhead(round);
            int mood = leastMood(fact);
            if (part == 0 || mood == NONE) {
                return mood;
            }
            return part == 1 ? firstFact : secondFact;
        }

        /** The least mood that shows a fact of the facts ahead; NONE. */
        private int leastMood(int fact) {
            for (int mood = 0; mood < MOODS && mood < MOOD_SHOWS.length; mood++) {
                boolean fits = has(moods, mood) && MOOD_SHOWS[mood] == fact >> 4;
                if (fits && isShowing(mood, fact >> 2 & 3, fact & 3)) {
                    return mood;
                }
            }
            return NONE;
        }

        private boolean isShowing(int mood, int x, int y) {
            int first = mood < MOOD_FIRST.length ? MOOD_FIRST[mood] : NONE;
            int second = mood < MOOD_SECOND.length ? MOOD_SECOND[mood] : NONE;
            switch (mood) {
                case TURN_NO:
                case TURN_SOME:
                    return isShownOf(factNumber(first, y, x), NONE);
                case SAME:
                    return x == y && isShownOf(NONE, NONE);
                case THERE_IS:
                    return isShownOf(factNumber(first, x, y), NONE);
                default:
                    break;
            }
            for (int middle = 0; middle < kinds; middle++) {
                int one = factNumber(first, x, middle);
                int two = mood == LACK ? factNumber(second, y, middle) : factNumber(second, middle, y);
                if (isShownOf(one, two)) {
                    return true;
                }
            }
            return false;
        }

        /** Whether two facts (NONE: no fact is needed) are ahead; they are kept then. */
        private boolean isShownOf(int one, int two) {
            long needed = (one == NONE ? 0 : 1L << one) | (two == NONE ? 0 : 1L << two);
            if ((ahead & needed) != needed) {
                return false;
            }
            firstFact = one;
            secondFact = two;
            return true;
        }
    }
}
