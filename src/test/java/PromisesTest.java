/** Each promise by itself: ordinary calls, the edges that the document names, wrong inputs; answers worked out by hand. */
public final class PromisesTest {
    private static final int BAD = KindSayings.BAD, STATE = KindSayings.STATE;
    private static final int FULL = KindSayings.FULL, NONE = KindSayings.NONE;
    private static final int[] NO_SETS = {-1, 1024, Integer.MIN_VALUE, Integer.MAX_VALUE};
    private static final int[] NO_SAYINGS = {-1, 10, Integer.MIN_VALUE, Integer.MAX_VALUE};
    private static final Check CHECK = new Check();

    private static void due(String call, long got, long want) {
        CHECK.due(call, got, want);
    }

    /** All that can be seen of an object, in one number. */
    private static long seen(KindSayings x) {
        long all = x.worlds();
        for (int what = 0; what < 5; what++) {
            all = 31 * all + x.count(what);
        }
        int bits = x.moods(0);
        x.moods(bits);
        all = 31 * all + bits;
        for (int i = 0; i < 10; i++) {
            for (int what = 0; what < 6; what++) {
                all = 31 * all + x.about(i, what);
            }
            for (int what = 0; what < 3; what++) {
                all = 31 * all + x.size(i, what);
            }
        }
        return all;
    }

    private static void newObject() {
        KindSayings x = new KindSayings();
        due("new: k", x.count(0), 3);
        due("new: N", x.count(1), 4);
        due("new: things", x.count(2), 0);
        due("new: text", x.count(3), 0);
        due("new: plain", x.count(4), 1023);
        due("new: worlds", x.worlds(), 495);
        due("new: moods", x.moods(0), 255);
        for (int i = 0; i < 10; i++) {
            due("new: word " + i, x.about(i, 0), 0);
            due("new: X " + i, x.about(i, 1), 0xAA);
            due("new: Y " + i, x.about(i, 2), 0xAA);
            due("new: n " + i, x.about(i, 3), 0);
            due("new: turned " + i, x.about(i, 4), 0);
            due("new: fact " + i, x.about(i, 5), 0);
        }
        for (int sort = 0; sort < 8; sort++) {
            due("new: put " + sort, x.put(sort, 0), 0);
        }
        due("new: no ninth sort", x.put(8, 0), BAD);
    }

    private static void kinds() {
        KindSayings x = Made.full();
        due("kinds(4)", x.kinds(4), 3);
        due("N stays", x.count(1), 3);
        due("the world is empty", x.count(2), 0);
        due("the text stays", x.count(3), 6);
        due("sayings as at first", x.count(4), 1023);
        due("A of four kinds", x.about(9, 1), 0xAAAA);
        due("moods stay", x.moods(300), 300);
        due("worlds", x.worlds(), 969);
        due("put(15, 1)", x.put(15, 1), 0);
        Made.tell(x, "some D:A");
        due("kinds(4) again", x.kinds(4), 4);
        due("told again: word", x.about(0, 0), 0);
        due("told again: world", x.count(2), 0);
        due("kinds(1)", x.kinds(1), 4);
        due("kinds(2)", x.kinds(2), 1);
        due("B is there", Check.tell(x, 0, "all A:B"), 1);
        due("C is not", Check.tell(x, 0, "all A:C"), -16);
        long before = seen(x);
        for (int k : new int[] {0, 5, -1, Integer.MIN_VALUE, Integer.MAX_VALUE}) {
            due("kinds(" + k + ")", x.kinds(k), BAD);
        }
        due("kinds refused: nothing changes", seen(x), before);
    }

    private static void most() {
        KindSayings x = Made.full();
        due("most(6)", x.most(6), 3);
        due("most(1)", x.most(1), 6);
        due("the world stays", x.count(2), 3);
        due("N", x.count(1), 1);
        long before = seen(x);
        for (int v : new int[] {0, 7, -1, Integer.MIN_VALUE, Integer.MAX_VALUE}) {
            due("most(" + v + ")", x.most(v), BAD);
        }
        due("most refused: nothing changes", seen(x), before);
        KindSayings y = Made.told("least 3 A:A", "least 4 A:A");
        due("within 4", y.can(2), 35);
        y.most(3);
        due("within 3", y.can(1), 20);
        due("not within 3", y.can(2), 0);
        y.most(4);
        due("within 4 again", y.can(2), 35);
    }

    private static void worlds() {
        int[][] due = {{3, 6, 10, 15, 21, 28}, {5, 15, 35, 70, 126, 210},
            {9, 45, 165, 495, 1287, 3003}, {17, 153, 969, 4845, 20349, 74613}};
        KindSayings x = new KindSayings();
        for (int k = 1; k <= 4; k++) {
            x.kinds(k);
            for (int n = 1; n <= 6; n++) {
                x.most(n);
                due("worlds of " + k + " kinds, " + n + " things", x.worlds(), due[k - 1][n - 1]);
                due("all of them can be", x.can(0), due[k - 1][n - 1]);
            }
        }
    }

    private static void put() {
        KindSayings x = new KindSayings();
        due("put(7, 6)", x.put(7, 6), 0);
        due("put(7, 2)", x.put(7, 2), 6);
        due("put(0, 4)", x.put(0, 4), 0);
        due("things", x.count(2), 6);
        long before = seen(x);
        due("put(0, 5)", x.put(0, 5), FULL);
        due("put(1, 1)", x.put(1, 1), FULL);
        due("put(1, 0)", x.put(1, 0), 0);
        int[][] bad = {{8, 0}, {-1, 0}, {0, 7}, {0, -1}, {8, 6}, {Integer.MIN_VALUE, 1}, {Integer.MAX_VALUE, 1},
            {1, Integer.MAX_VALUE}, {1, Integer.MIN_VALUE}};
        for (int[] call : bad) {
            due("put(" + call[0] + ", " + call[1] + ")", x.put(call[0], call[1]), BAD);
        }
        due("put refused: nothing changes", seen(x), before);
        due("put(0, 4) again", x.put(0, 4), 4);
        x.most(1);
        due("N does not bound the world", x.put(7, 1), 2);
        due("nor when it grows", x.put(7, 2), 1);
    }

    private static void holds() {
        KindSayings x = Made.told("all A:B", "some A:B", "no A:B", "most A:B", "least 2 A:B", "just 2 A:B", "more A:B",
            "even A:B", "not most A:B", "least 0 A:B");
        int[][] worlds = {{0, 0, 0, 0}, {0, 2, 0, 2}, {0, 1, 1, 2}, {0, 0, 3, 3}, {2, 1, 0, 0}, {0, 3, 0, 2}, {0, 0, 2, 0}};
        for (int w = 0; w < worlds.length; w++) {
            for (int sort = 0; sort < 4; sort++) {
                x.put(sort, 0);
            }
            for (int sort = 0; sort < 4; sort++) {
                x.put(sort, worlds[w][sort]);
            }
            int only = worlds[w][1];
            int other = worlds[w][2];
            int both = worlds[w][3];
            boolean[] want = {only == 0, both > 0, both == 0, both > only, both >= 2, both == 2, only > other,
                only == other, both <= only, true};
            for (int i = 0; i < 10; i++) {
                due("world " + w + ": holds(" + i + ")", x.holds(i), want[i] ? 1 : 0);
            }
        }
        for (int i : NO_SAYINGS) {
            due("holds(" + i + ")", x.holds(i), BAD);
        }
    }

    private static void size() {
        KindSayings x = Made.told("all A:B", "some !A:B|C", "even (A|B)&C:!(A&B)");
        x.put(0, 1);
        x.put(1, 2);
        x.put(2, 1);
        x.put(7, 2);
        int[][] due = {{4, 3, 2}, {2, 3, 1}, {2, 4, 0}};
        for (int i = 0; i < 3; i++) {
            for (int what = 0; what < 3; what++) {
                due("size(" + i + ", " + what + ")", x.size(i, what), due[i][what]);
            }
        }
        due("size(0, 3)", x.size(0, 3), BAD);
        due("size(0, -1)", x.size(0, -1), BAD);
        for (int i : NO_SAYINGS) {
            due("size(" + i + ", 0)", x.size(i, 0), BAD);
        }
    }

    private static void type() {
        KindSayings x = new KindSayings();
        due("the lowest byte alone", x.type(0x6262626262626261L, 1), 1);
        due("type two", x.type(0x6c6cL, 2), 3);
        due("type the rest", x.type(Check.packed(" A:A"), 4), 7);
        due("they are the text in order", x.read(1), 1);
        due("text is empty then", x.count(3), 0);
        for (int i = 1; i <= 9; i++) {
            due("type of eight", x.type(0x2020202020202020L, 8), 8 * i);
        }
        due("to 79", x.type(0, 7), 79);
        long before = seen(x);
        due("over 80", x.type(0, 2), FULL);
        due("bad ahead of full", x.type(0, 9), BAD);
        for (int n : new int[] {0, -1, 9, Integer.MIN_VALUE, Integer.MAX_VALUE}) {
            due("type(0, " + n + ")", x.type(0, n), BAD);
        }
        due("type refused: nothing changes", seen(x), before);
        due("to 80", x.type(0, 1), 80);
        due("over 80", x.type(0, 1), FULL);
        due("72 blanks, then bytes 0", x.read(0), -82);
        x.clear();
        Check.type(x, "all A:A");
        x.type(-1L, 8);
        due("bytes 255 behind", x.read(0), -17);
    }

    private static void clear() {
        KindSayings x = new KindSayings();
        due("clear() of none", x.clear(), 0);
        Check.type(x, "some A:B C");
        due("clear()", x.clear(), 10);
        due("count(3)", x.count(3), 0);
        due("clear() again", x.clear(), 0);
        due("nothing is left of it", x.read(0), -10);
    }

    private static void read() {
        KindSayings x = Made.full();
        long before = seen(x);
        for (int i : NO_SAYINGS) {
            due("read(" + i + ")", x.read(i), BAD);
        }
        due("read(0) of a fault", x.read(0), -16);
        due("read refused: nothing changes", seen(x), before);
        x.type('A', 1);
        due("read(9)", x.read(9), 1);
        due("the text is empty", x.count(3), 0);
        due("it is saying 9", x.about(9, 5), 4);
        due("others stay", x.about(0, 5), 49);
    }

    private static void about() {
        String[] words = {"all", "some", "no", "most", "least 5", "just 0", "more", "even"};
        KindSayings x = new KindSayings();
        for (int w = 0; w < 8; w++) {
            due("read", Check.tell(x, w, words[w] + " B : A & C"), 1);
            due("word of " + words[w], x.about(w, 0), w);
            due("X of " + words[w], x.about(w, 1), 0xCC);
            due("Y of " + words[w], x.about(w, 2), 0xA0);
            due("n of " + words[w], x.about(w, 3), w == 4 ? 5 : 0);
            due("turned " + words[w], x.about(w, 4), 0);
            due("fact of " + words[w], x.about(w, 5), NONE);
            due("read", Check.tell(x, w, "not " + words[w] + " C : B"), 1);
            due("word of not " + words[w], x.about(w, 0), w);
            due("turned not " + words[w], x.about(w, 4), 1);
            due("fact of not " + words[w], x.about(w, 5), w == 0 ? 57 : w == 1 ? 41 : w == 2 ? 25 : NONE);
            due("read", Check.tell(x, w, words[w] + " C : C"), 1);
            due("fact of C : C, " + words[w], x.about(w, 5), w < 3 ? 16 * w + 10 : NONE);
            due("not turned again", x.about(w, 4), 0);
        }
        String[] notPlain = {"all (A):B", "all A:(B)", "all A:!!B", "all !!A:B", "all A|A:B", "all A:B&B", "all !A:B"};
        for (String text : notPlain) {
            due("read", Check.tell(x, 0, text), 1);
            due("fact of " + text, x.about(0, 5), NONE);
        }
        sets();
        for (int i : NO_SAYINGS) {
            due("about(" + i + ", 0)", x.about(i, 0), BAD);
        }
        for (int what : new int[] {-1, 6, Integer.MIN_VALUE, Integer.MAX_VALUE}) {
            due("about(0, " + what + ")", x.about(0, what), BAD);
        }
    }

    private static void sets() {
        String[] texts = {"A", "B", "C", "!A", "A&B", "A|B", "A|B&C", "A&B|C", "(A|B)&C", "!A&B", "!(A&B)", "!!A", "A&!A",
            "A|!A", "!(A|!(B&!C))", "((A))", "!A|!B|!C", "A&B&C"};
        int[] due = {0xAA, 0xCC, 0xF0, 0x55, 0x88, 0xEE, 0xEA, 0xF8, 0xE0, 0x44, 0x77, 0xAA, 0, 255, 0x04, 0xAA, 0x7F, 0x80};
        for (int i = 0; i < texts.length; i++) {
            KindSayings x = Made.told("even " + texts[i] + ":" + texts[i]);
            due("X " + texts[i], x.about(0, 1), due[i]);
            due("Y " + texts[i], x.about(0, 2), due[i]);
        }
        KindSayings x = new KindSayings();
        x.kinds(1);
        Made.tell(x, "all !A:A|!A");
        due("X of one kind", x.about(0, 1), 1);
        due("Y of one kind", x.about(0, 2), 3);
        x.kinds(4);
        Made.tell(x, "all !D:A|!A");
        due("X of four kinds", x.about(0, 1), 0xFF);
        due("Y of four kinds", x.about(0, 2), 0xFFFF);
    }

    private static void can() {
        KindSayings x = new KindSayings();
        x.kinds(1);
        x.most(2);
        Made.tell(x, "some A:A", "just 1 A:A", "more A:!A", "not some A:A");
        due("can(0)", x.can(0), 6);
        due("can(1)", x.can(1), 3);
        due("can(2)", x.can(2), 2);
        due("can(4)", x.can(4), 2);
        due("can(6)", x.can(6), 1);
        due("can(8)", x.can(8), 3);
        due("can(9)", x.can(9), 0);
        due("can(1023)", x.can(1023), 0);
        for (int set : NO_SETS) {
            due("can(" + set + ")", x.can(set), BAD);
        }
    }

    private static void least() {
        KindSayings x = Made.told("some A:B", "not all A:B", "least 2 C:C", "some !A:!B", "no C:A&B", "all C:B");
        int[] set = {0, 1, 3, 7, 15, 31, 63};
        // The worlds by hand, as the sorts of their things: of as many things the one with more of the least sort.
        int[][] due = {{}, {3}, {1, 3}, {3 + 2, 7}, {0, 5, 7}, {3, 4, 5}, null};
        // The last takes 3, 1, 0, 6, 6: five things.
        for (int w = 0; w < set.length; w++) {
            due("least(" + set[w] + ", -1)", x.least(set[w], -1), due[w] == null ? NONE : due[w].length);
            for (int sort = 0; sort < 8 && due[w] != null; sort++) {
                int many = 0;
                for (int of : due[w]) {
                    many += of == sort ? 1 : 0;
                }
                due("least(" + set[w] + ", " + sort + ")", x.least(set[w], sort), many);
            }
        }
        Made.tell(x, "no A:B", "some A:B");
        due("no world", x.least(3, -1), NONE);
        due("no world, a sort", x.least(3, 7), NONE);
        for (int no : NO_SETS) {
            due("least(" + no + ", -1)", x.least(no, -1), BAD);
        }
        for (int sort : new int[] {-2, 8, Integer.MIN_VALUE, Integer.MAX_VALUE}) {
            due("least(0, " + sort + ")", x.least(0, sort), BAD);
            due("least(3, " + sort + "), bad though there is no world", x.least(3, sort), BAD);
        }
    }

    private static void follows() {
        KindSayings x = Made.told("all A:B", "all B:C", "all A:C", "some A:C", "no A:A", "least 4 B:B", "least 2 C:B");
        due("by a chain", x.follows(3, 2), 1);
        due("not the other way", x.follows(5, 1), 0);
        due("of no things not", x.follows(3, 3), 0);
        due("with some", x.follows(11, 3), 1);
        due("itself", x.follows(8, 3), 1);
        due("what always holds", x.follows(0, 9), 1);
        due("what does not always", x.follows(0, 0), 0);
        due("what cannot be: all", x.follows(24, 5), 1);
        due("within N alone", x.follows(34, 6), 1);
        Made.tell(x, "least 3 A:A", "least 2 B:B", "some A:B");
        due("three and two of four meet", x.follows(3, 2), 1);
        x.most(5);
        due("of five they need not", x.follows(3, 2), 0);
        for (int no : NO_SETS) {
            due("follows(" + no + ", 0)", x.follows(no, 0), BAD);
        }
        for (int no : NO_SAYINGS) {
            due("follows(0, " + no + ")", x.follows(0, no), BAD);
        }
    }

    private static void against() {
        KindSayings x = Made.told("some A:B", "all A:B", "no A:C", "some C:C");
        due("against(1, 1, -1)", x.against(1, 1, -1), 2);
        due("of sort 1", x.against(1, 1, 1), 1);
        due("of sort 3", x.against(1, 1, 3), 1);
        due("of sort 0", x.against(1, 1, 0), 0);
        due("against(1, 2, -1)", x.against(1, 2, -1), 1);
        due("of sort 7", x.against(1, 2, 7), 1);
        due("against(8, 0, 4)", x.against(8, 0, 4), 1);
        due("the empty world", x.against(0, 3, -1), 0);
        due("the empty world, a sort", x.against(0, 3, 2), 0);
        due("follows: none", x.against(1, 0, -1), NONE);
        due("always: none", x.against(0, 9, 5), NONE);
        for (int no : NO_SETS) {
            due("against(" + no + ", 0, 0)", x.against(no, 0, 0), BAD);
        }
        for (int no : NO_SAYINGS) {
            due("against(0, " + no + ", 0)", x.against(0, no, 0), BAD);
        }
        for (int sort : new int[] {-2, 8, Integer.MIN_VALUE, Integer.MAX_VALUE}) {
            due("against(0, 9, " + sort + ")", x.against(0, 9, sort), BAD);
        }
    }

    private static void unsaid() {
        KindSayings x = Made.told("all A:B", "all B:C", "all A:C", "some A:B", "some B:A", "least 0 A:A");
        due("nothing said", x.unsaid(0), 0);
        due("one", x.unsaid(1), 0);
        due("what always holds", x.unsaid(32), 32);
        due("the chain's end", x.unsaid(7), 4);
        due("each of two twins by itself", x.unsaid(24), 24);
        due("all of these", x.unsaid(63), 4 + 8 + 16 + 32);
        due("only of the set", x.unsaid(3), 0);
        due("read", Check.tell(x, 6, "no A:B"), 1);
        due("of what cannot be, what the others still clash without", x.unsaid(8 + 64 + 1), 1);
        due("read", Check.tell(x, 7, "not some A:B"), 1);
        due("clashing twice", x.unsaid(8 + 64 + 128), 64 + 128);
        for (int no : NO_SETS) {
            due("unsaid(" + no + ")", x.unsaid(no), BAD);
        }
    }

    private static void clash() {
        KindSayings x = Made.told("all A:B", "all B:C", "some A:!C", "no A:B", "some A:B", "least 5 A:A", "not least 0 A:A");
        due("three together", x.clash(7, 0), 3);
        due("the three", x.clash(7, 1), 7);
        due("two are fewer", x.clash(31, 0), 2);
        // "all A:B" and "no A:B" can be together where no A is; "no A:B" and "some A:B" cannot.
        due("the pair", x.clash(31, 1), 24);
        due("one by itself within N", x.clash(63, 1), 32);
        due("least of two by themselves", x.clash(127, 1), 32);
        due("the other one", x.clash(64 + 31, 1), 64);
        due("one: how many", x.clash(64 + 31, 0), 1);
        due("none clash", x.clash(19, 0), NONE);
        due("none clash, the set", x.clash(19, 1), NONE);
        due("no set", x.clash(0, 1), NONE);
        x.most(5);
        due("within five", x.clash(32, 0), NONE);
        KindSayings y = Made.told("some A:A", "some B:B", "some C:C", "no A:A", "no B:B", "no C:C");
        due("least of the pairs as a number", y.clash(63, 1), 9);
        due("and without the first", y.clash(62, 1), 18);
        for (int no : NO_SETS) {
            due("clash(" + no + ", 0)", x.clash(no, 0), BAD);
        }
        for (int what : new int[] {-1, 2, Integer.MIN_VALUE, Integer.MAX_VALUE}) {
            due("clash(0, " + what + ")", x.clash(0, what), BAD);
        }
    }

    private static void ask() {
        KindSayings x = new KindSayings();
        x.kinds(1);
        x.most(2);
        // Of six worlds the sayings hold in 3, 2, 3, 1; the rest always.
        Made.tell(x, "least 2 A|!A:A|!A", "just 1 A:A", "some A:A", "least 2 A:A");
        due("the first of the best", x.ask(0), 0);
        due("told: the others part more", x.ask(1), 1);
        due("of the worlds with some", x.ask(4), 0);
        due("one world: the first", x.ask(8), 0);
        due("read", Check.tell(x, 4, "not some A:A"), 1);
        due("no world", x.ask(4 + 16), STATE);
        due("a question for its no", x.ask(16), 0);
        for (int no : NO_SETS) {
            due("ask(" + no + ")", x.ask(no), BAD);
        }
    }

    private static void heaps() {
        KindSayings x = new KindSayings();
        due("nothing parts them", x.heaps(0), 1);
        x.kinds(1);
        x.most(2);
        Made.tell(x, "some A:A", "least 2 A:A", "even A:!A");
        // (0,0) e; (1,0) -; (0,1) s; (2,0) -; (1,1) s e; (0,2) s l.
        due("heaps(0)", x.heaps(0), 5);
        due("heaps(1)", x.heaps(1), 3);
        due("heaps(2)", x.heaps(2), 1);
        due("heaps(4)", x.heaps(4), 2);
        due("heaps(6)", x.heaps(6), 0);
        due("heaps(1023)", x.heaps(1023), 0);
        for (int no : NO_SETS) {
            due("heaps(" + no + ")", x.heaps(no), BAD);
        }
    }

    /** Worlds in which none of all sayings hold are a heap too. */
    private static void noneHold() {
        KindSayings x = new KindSayings();
        for (int i = 0; i < 10; i++) {
            due("read", Check.tell(x, i, "some A:A"), 1);
        }
        // Of 495 worlds 70 have no A; sorts that are not A are four of eight.
        for (int turn = 0; turn < 3; turn++) {
            due("all worlds", x.can(0), 495);
            due("all but those without A", x.can(1), 425);
            due("two heaps", x.heaps(0), 2);
            due("the empty world is first", x.least(0, -1), 0);
            due("and against it", x.against(0, 9, -1), 0);
            due("clash of none", x.clash(1023, 0), NONE);
            due("read", Check.tell(x, turn, "not no A:A"), 1);
        }
    }

    private static void twin() {
        KindSayings x = Made.told("some A:B", "no A:B", "not no B:A", "least 1 A&B:A|C", "all A:B", "even A:A&B", "least 5 A:A",
            "not all C:C", "most A:B", "even A:A");
        int[] due = {2, NONE, 0, 0, 5, 4, 7, 6, NONE, NONE};
        for (int i = 0; i < 10; i++) {
            due("twin(" + i + ")", x.twin(i), due[i]);
        }
        x.most(5);
        due("no twins within five", x.twin(6), NONE);
        due("first of new sayings", new KindSayings().twin(0), 1);
        due("first of new sayings", new KindSayings().twin(7), 0);
        for (int no : NO_SAYINGS) {
            due("twin(" + no + ")", x.twin(no), BAD);
        }
    }

    private static void moods() {
        KindSayings x = new KindSayings();
        due("moods(511)", x.moods(511), 255);
        due("moods(0)", x.moods(0), 511);
        due("moods(37)", x.moods(37), 0);
        long before = seen(x);
        for (int bits : new int[] {-1, 512, Integer.MIN_VALUE, Integer.MAX_VALUE}) {
            due("moods(" + bits + ")", x.moods(bits), BAD);
        }
        due("moods refused: nothing changes", seen(x), before);
        eachMood();
    }

    /** Each mood alone shows just its own, of what it needs. */
    private static void eachMood() {
        String[][] told = {{"all A:B", "all B:C"}, {"all A:B", "no B:C"}, {"some A:B", "all B:C"}, {"some A:B", "no B:C"},
            {"no A:B"}, {"some A:B"}, {"not all A:C", "all B:C"}, {}, {"all A:B"}};
        int[][] shown = {{0, 0, 2}, {2, 0, 2}, {1, 0, 2}, {3, 0, 2}, {2, 1, 0}, {1, 1, 0}, {3, 0, 1}, {0, 1, 1}, {1, 0, 1}};
        int[][] facts = {{1, 6}, {1, 38}, {17, 6}, {17, 38}, {33, NONE}, {17, NONE}, {50, 6}, {NONE, NONE}, {1, NONE}};
        for (int mood = 0; mood < 9; mood++) {
            KindSayings x = Made.told(told[mood]);
            int set = (1 << told[mood].length) - 1;
            int[] f = shown[mood];
            String name = "mood " + mood + ": ";
            x.moods(511 & ~(1 << mood));
            due(name + "not without it", x.by(set, f[0], f[1], f[2], 0) == mood ? 1 : 0, 0);
            x.moods(1 << mood);
            due(name + "round", x.round(set, f[0], f[1], f[2]), mood == 7 ? 0 : 1);
            due(name + "mood", x.by(set, f[0], f[1], f[2], 0), mood);
            due(name + "first", x.by(set, f[0], f[1], f[2], 1), facts[mood][0]);
            due(name + "second", x.by(set, f[0], f[1], f[2], 2), facts[mood][1]);
            due(name + "all there is", x.shown(set, 0), told[mood].length + (mood == 7 ? 3 : 1));
        }
    }

    private static void round() {
        KindSayings x = new KindSayings();
        x.kinds(4);
        Made.tell(x, "all A:B", "all B:C", "all C:D", "some A:A", "even A:B");
        due("told", x.round(7, 0, 0, 1), 0);
        due("same", x.round(0, 0, 3, 3), 0);
        due("after one", x.round(7, 0, 0, 2), 1);
        due("after two", x.round(7, 0, 0, 3), 2);
        due("some A B", x.round(15, 1, 0, 1), 1);
        due("some A D, of some A B and all B D", x.round(15, 1, 0, 3), 2);
        due("some D A", x.round(15, 1, 3, 0), 3);
        due("never", x.round(15, 2, 0, 0), NONE);
        due("only of the set", x.round(3, 0, 0, 3), NONE);
        due("not plain: tells none", x.round(16, 0, 0, 1), NONE);
        for (int no : NO_SETS) {
            due("round(" + no + ", 0, 0, 0)", x.round(no, 0, 0, 0), BAD);
        }
        x.kinds(2);
        int[][] bad = {{-1, 0, 0}, {4, 0, 0}, {0, -1, 0}, {0, 2, 0}, {0, 0, -1}, {0, 0, 2}, {Integer.MAX_VALUE, 0, 0},
            {0, Integer.MIN_VALUE, 0}, {0, 0, Integer.MAX_VALUE}};
        for (int[] f : bad) {
            due("round(0, " + f[0] + ", " + f[1] + ", " + f[2] + ")", x.round(0, f[0], f[1], f[2]), BAD);
        }
    }

    private static void by() {
        KindSayings x = Made.told("some A:B", "some B:A", "all B:C", "all A:C", "all A:A");
        due("told: no mood", x.by(1, 1, 0, 1, 0), NONE);
        due("told: no first", x.by(1, 1, 0, 1, 1), NONE);
        due("told: no second", x.by(1, 1, 0, 1, 2), NONE);
        due("never", x.by(1, 0, 0, 1, 0), NONE);
        due("told, not by mood 7", x.by(16, 0, 0, 0, 0), NONE);
        due("by mood 7", x.by(16, 0, 1, 1, 0), 7);
        due("mood 7 takes none", x.by(16, 0, 1, 1, 1), NONE);
        due("mood 7 takes none", x.by(16, 0, 1, 1, 2), NONE);
        due("the least mood", x.by(1 + 4, 1, 0, 2, 0), 2);
        due("the first fact", x.by(1 + 4, 1, 0, 2, 1), 17);
        due("the second fact", x.by(1 + 4, 1, 0, 2, 2), 6);
        due("mood 5 takes one", x.by(1, 1, 1, 0, 1), 17);
        due("mood 5 takes one", x.by(1, 1, 1, 0, 2), NONE);
        KindSayings y = new KindSayings();
        y.kinds(4);
        Made.tell(y, "all A:B", "all A:C", "all B:D", "all C:D", "all D:B");
        due("least of two ways", y.by(15, 0, 0, 3, 1), 1);
        due("and its second", y.by(15, 0, 0, 3, 2), 7);
        due("a fact of the round ahead", y.by(2 + 8 + 16, 0, 0, 1, 1), 2);
        due("and its second", y.by(2 + 8 + 16, 0, 0, 1, 2), 9);
        due("their round", y.round(2 + 8 + 16, 0, 0, 1), 2);
        // "all A A, all A B" would be less, but that is the fact itself, of its own round.
        due("not of itself", y.by(2 + 8, 0, 0, 3, 1), 2);
        due("not of itself", y.by(2 + 8, 0, 0, 3, 2), 11);
        due("by part 3", y.by(0, 0, 0, 0, 3), BAD);
        due("by part -1", y.by(0, 0, 0, 0, -1), BAD);
        due("by fact 4", y.by(0, 4, 0, 0, 0), BAD);
        due("by fact -1", y.by(0, -1, 0, 0, 0), BAD);
        due("by kind 4", y.by(0, 0, 4, 0, 0), BAD);
        due("by kind 4", y.by(0, 0, 0, 4, 0), BAD);
        due("by kind -1", y.by(0, 0, -1, 0, 0), BAD);
        for (int no : NO_SETS) {
            due("by(" + no + ", 0, 0, 0, 0)", y.by(no, 0, 0, 0, 0), BAD);
        }
    }

    private static void shown() {
        KindSayings x = Made.told("all A:B", "all B:C", "some A:A", "no C:A", "not all A:B", "even A:B");
        due("same alone", x.shown(0, 0), 3);
        due("no round", x.shown(0, 1), 0);
        due("a chain", x.shown(3, 0), 6);
        due("one round", x.shown(3, 1), 1);
        due("no quarrel", x.shown(3, 2), 0);
        due("nothing beyond", x.shown(3, 3), 0);
        due("nothing beyond", x.shown(0, 3), 0);
        due("quarrel of some and no", x.shown(15, 2), 1);
        due("quarrel of all and not all", x.shown(17, 2), 1);
        due("a quarrel only shown", x.shown(13, 2), 0);
        // "no A:A": all A B, all A C; no A B, B A, A C, C A follow, and no mood shows them.
        due("read", Check.tell(x, 6, "no A:A"), 1);
        due("beyond what moods show", x.shown(64, 3), 6);
        beyond();
        for (int no : NO_SETS) {
            due("shown(" + no + ", 0)", x.shown(no, 0), BAD);
        }
        for (int what : new int[] {-1, 4, Integer.MIN_VALUE, Integer.MAX_VALUE}) {
            due("shown(0, " + what + ")", x.shown(0, what), BAD);
        }
    }

    private static void beyond() {
        KindSayings x = new KindSayings();
        x.kinds(1);
        // Of one kind: all, some, no, not all A A. "some" follows from "least 2", and moods tell nothing of it.
        Made.tell(x, "least 2 A:A", "no A:A", "not least 0 A:A", "least 5 A:A");
        due("some follows, and does not come", x.shown(1, 3), 1);
        due("told: it comes", x.shown(2, 3), 0);
        due("what cannot be: some, no, not all", x.shown(4, 3), 3);
        due("within N", x.shown(8, 3), 3);
        x.most(5);
        due("within five", x.shown(8, 3), 1);
        x.moods(0);
        due("all A A does not come either", x.shown(8, 3), 2);
        due("nothing there", x.shown(8, 0), 0);
        x.moods(511);
        due("a mood may show what does not follow", x.shown(0, 0), 2);
        due("that is not beyond", x.shown(0, 3), 0);
    }

    private static void count() {
        KindSayings x = Made.full();
        int[] due = {3, 3, 3, 6, 1023 - 2 - 8 - 16};
        for (int what = 0; what < 5; what++) {
            due("count(" + what + ")", x.count(what), due[what]);
        }
        for (int what : new int[] {-1, 5, Integer.MIN_VALUE, Integer.MAX_VALUE}) {
            due("count(" + what + ")", x.count(what), BAD);
        }
    }

    /** What cannot be asked changes nothing, whatever else the call says. */
    private static void questionsChangeNothing() {
        KindSayings x = Made.full();
        long before = seen(x);
        for (int set : new int[] {0, 31, 1023, -1, 1024}) {
            x.can(set);
            x.least(set, -1);
            x.follows(set, 10);
            x.against(set, 2, 8);
            x.unsaid(set);
            x.clash(set, 2);
            x.ask(set);
            x.heaps(set);
            x.twin(set);
            x.round(set, 0, 0, 3);
            x.by(set, 0, 0, 1, 1);
            x.shown(set, 3);
        }
        due("questions change nothing", seen(x), before);
    }

    public static void main(String[] args) {
        newObject();
        kinds();
        most();
        worlds();
        put();
        holds();
        size();
        type();
        clear();
        read();
        about();
        can();
        least();
        follows();
        against();
        unsaid();
        clash();
        ask();
        heaps();
        noneHold();
        twin();
        moods();
        round();
        by();
        shown();
        count();
        questionsChangeNothing();
        CHECK.finish();
    }
}
