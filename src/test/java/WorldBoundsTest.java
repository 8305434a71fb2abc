/** The boundary cases of kinds, sorts, worlds and the world at hand: each of the document's sentences by itself. */
public final class WorldBoundsTest {
    private static final int BAD = KindSayings.BAD, FULL = KindSayings.FULL;
    private static final Check CHECK = new Check();

    // ---- terms

    private static void kindsThereAre() {
        CHECK.sentence("(k of them, 1 .. 4; 3 at first).");
        KindSayings x = new KindSayings();
        CHECK.due("k at first", x.count(0), 3);
        CHECK.due("kinds(1), the least", x.kinds(1), 3);
        CHECK.due("kinds(0)", x.kinds(0), BAD);
        CHECK.due("k behind kinds(0)", x.count(0), 1);
        CHECK.due("kinds(4), the greatest", x.kinds(4), 1);
        CHECK.due("kinds(5)", x.kinds(5), BAD);
        CHECK.due("k behind kinds(5)", x.count(0), 4);
        CHECK.due("kinds of the least int", x.kinds(Integer.MIN_VALUE), BAD);
        CHECK.due("kinds of the greatest int", x.kinds(Integer.MAX_VALUE), BAD);
        CHECK.due("k behind them", x.count(0), 4);
    }

    private static void sortsThereAre() {
        CHECK.sentence("A THING is of some of them: its SORT is the bits (A 1, B 2, C 4, D 8): 2^k SORTS.");
        for (int k = 1; k <= 4; k++) {
            KindSayings x = Made.of(k, 4);
            int last = (1 << k) - 1;
            CHECK.due("put(0, 1) of k " + k, x.put(0, 1), 0);
            CHECK.due("put of the last sort of k " + k, x.put(last, 1), 0);
            CHECK.due("put of one sort more, k " + k, x.put(last + 1, 1), BAD);
            CHECK.due("put(-1, 1) of k " + k, x.put(-1, 1), BAD);
            CHECK.due("things of k " + k, x.count(2), 2);
            CHECK.due("worlds of one thing and of none, k " + k, worldsOfOne(k), (1 << k) + 1);
        }
        for (int sort = 0; sort < 16; sort++) {
            KindSayings x = Made.of(4, 4, "some A:A", "some B:B", "some C:C", "some D:D");
            x.put(sort, 1);
            for (int kind = 0; kind < 4; kind++) {
                CHECK.due("a thing of sort " + sort + " is of kind " + kind, x.holds(kind), sort / (1 << kind) % 2);
                CHECK.due("how many of kind " + kind, x.size(kind, 0), sort / (1 << kind) % 2);
            }
        }
    }

    private static int worldsOfOne(int k) {
        return Made.of(k, 1).worlds();
    }

    private static void thingsInAll() {
        CHECK.sentence("A WORLD has so many THINGS of each SORT; MOST in all are N (1 .. 6; 4 at first).");
        CHECK.due("N at first", new KindSayings().count(1), 4);
        for (int n = 1; n <= 6; n++) {
            KindSayings x = Made.of(1, n, "least " + n + " A|!A:A|!A", "not least " + n + " A|!A:A|!A", "just 0 A|!A:A|!A",
                "just " + n + " A:A", "least " + Math.min(n + 1, 6) + " A|!A:A|!A");
            CHECK.due("worlds of just N " + n, x.can(1), n + 1);
            CHECK.due("worlds of fewer than N " + n, x.can(2), n * (n + 1) / 2);
            CHECK.due("worlds of no things, N " + n, x.can(4), 1);
            CHECK.due("worlds of N of one sort, N " + n, x.can(8), 1);
            CHECK.due("worlds of one more than N " + n + ", of six for N 6", x.can(16), n < 6 ? 0 : 7);
            CHECK.due("all worlds, N " + n, x.can(0), (n + 1) * (n + 2) / 2);
        }
        KindSayings x = new KindSayings();
        CHECK.due("most(1), the least", x.most(1), 4);
        CHECK.due("most(0)", x.most(0), BAD);
        CHECK.due("N behind most(0)", x.count(1), 1);
        CHECK.due("most(6), the greatest", x.most(6), 1);
        CHECK.due("most(7)", x.most(7), BAD);
        CHECK.due("N behind most(7)", x.count(1), 6);
    }

    private static void order() {
        CHECK.sentence("WORLDS are in order: those of fewer THINGS first; of as many the one that has more of the least SORT "
            + "of which they have not as many.");
        for (int k = 1; k <= 4; k++) {
            for (int n = 1; n <= 6; n++) {
                KindSayings x = Made.of(k, n, "just " + n + " A|!A:A|!A", "least 1 A|!A:A|!A");
                CHECK.due("the first of all", Made.least(x, 0), "");
                CHECK.due("the first of " + n + " things", Made.least(x, 1), "0 ".repeat(n).trim());
                CHECK.due("the first of some things", Made.least(x, 2), "0");
            }
        }
        fewerThingsFirst();
        twoThings();
        lastOfAll();
    }

    /** One thing of the last sort is ahead of two of the first. */
    private static void fewerThingsFirst() {
        KindSayings x = Made.of(2, 6, "not just 1 !A&!B:!A&!B", "some A|!A:A|!A", "no A:!B", "no B:!A");
        CHECK.due("one of sort 3, or two of sort 0", Made.least(x, 15), "3");
        CHECK.due("as many of A as of B, of both kinds some not", Made.against(Made.of(2, 6, "even A:B", "no A:A", "some !A:!A"), 5, 1), "0 3");
    }

    /** The ten worlds of two things of four sorts, each found as the first where those ahead of it are left out. */
    private static void twoThings() {
        String two = "just 2 A|!A:A|!A";
        first("0 0", two);
        first("0 1", two, "just 1 !A&!B:!A&!B");
        first("0 2", two, "just 1 !A&!B:!A&!B", "no A&!B:A");
        first("0 3", two, "just 1 !A&!B:!A&!B", "no A&!B:A", "no B&!A:B");
        first("0 3", two, "not just 2 !A&!B:!A&!B", "not just 1 A&!B:A", "no B&!A:B");
        first("1 1", two, "no !A&!B:!A&!B");
        first("1 2", two, "no !A&!B:!A&!B", "not just 2 A&!B:A");
        first("1 3", two, "no !A&!B:!A&!B", "not just 2 A&!B:A", "no B&!A:B");
        first("1 3", two, "no !A&!B:!A&!B", "not just 2 A&!B:A", "even A&B:A&!B|B&!A");
        first("2 2", two, "no !A&!B:!A&!B", "no A&!B:A");
        first("2 3", two, "no !A&!B:!A&!B", "no A&!B:A", "not just 2 B&!A:B");
        first("3 3", two, "no !A&!B:!A&!B", "no A&!B:A", "no B&!A:B");
        // A and B as many: 0 0, 0 3, 1 2, 3 3, in this order.
        first("0 0", two, "even A:B");
        first("0 3", two, "even A:B", "some A:A");
        first("1 2", two, "even A:B", "no !A&!B:!A&!B");
        first("3 3", two, "even A:B", "no !A&!B:!A&!B", "no A&!B:A");
    }

    private static void first(String world, String... texts) {
        KindSayings x = Made.of(2, 6, texts);
        CHECK.due("the first world of " + String.join(", ", texts), Made.least(x, (1 << texts.length) - 1), world);
    }

    private static void lastOfAll() {
        for (int k = 1; k <= 4; k++) {
            String all = "ABCD".substring(0, k).replaceAll("(?<=.)(?=.)", "&");
            KindSayings x = Made.of(k, 6, "least 6 " + all + ":" + all, "not least 6 " + all + ":" + all);
            String last = (((1 << k) - 1) + " ").repeat(6).trim();
            CHECK.due("the last of all, k " + k, Made.least(x, 1), last);
            CHECK.due("it is one", x.can(1), 1);
            CHECK.due("all but the last", x.can(2), x.worlds() - 1);
            CHECK.due("against all but the last", Made.against(x, 0, 1), last);
        }
    }

    private static void worldAtFirst() {
        CHECK.sentence("THE WORLD at hand has no THINGS at first.");
        KindSayings x = new KindSayings();
        CHECK.due("things", x.count(2), 0);
        for (int sort = 0; sort < 8; sort++) {
            CHECK.due("of sort " + sort, x.put(sort, 0), 0);
        }
        KindSayings y = new KindSayings();
        CHECK.due("there is room for six", y.put(3, 6), 0);
    }

    // ---- promises

    private static void newObject() {
        CHECK.sentence("Three KINDS, N 4.");
        KindSayings x = new KindSayings();
        CHECK.due("k", x.count(0), 3);
        CHECK.due("N", x.count(1), 4);
        CHECK.due("worlds", x.worlds(), 495);
        CHECK.due("the last sort", x.put(7, 0), 0);
        CHECK.due("no ninth sort", x.put(8, 0), BAD);
        CHECK.due("the third kind", Check.tell(x, 0, "all C:C"), 1);
        CHECK.due("no fourth kind", Check.tell(x, 0, "all D:C"), -14);
        CHECK.due("the text is empty", new KindSayings().count(3), 0);
        KindSayings one = new KindSayings();
        one.kinds(4);
        one.most(6);
        CHECK.due("another object has its own k and N", new KindSayings().worlds(), 495);
    }

    private static void kinds() {
        CHECK.sentence("There are k KINDS: how many there were (SAYINGS as at first, THE WORLD empty). BAD.");
        KindSayings x = new KindSayings();
        int[] row = {3, 1, 2, 4, 4, 1};
        for (int i = 1; i < row.length; i++) {
            CHECK.due("kinds(" + row[i] + ")", x.kinds(row[i]), row[i - 1]);
        }
        for (int k = 1; k <= 4; k++) {
            KindSayings y = Made.of(k, 4, "not some A:!A", "no A:A", "least 1 A:A", "more A:!A", "no A:A", "no A:A", "no A:A",
                "no A:A", "no A:A", "just 6 A:!A");
            y.put(0, 3);
            y.put((1 << k) - 1, 3);
            CHECK.due("kinds(0)", y.kinds(0), BAD);
            CHECK.due("kinds(5)", y.kinds(5), BAD);
            CHECK.due("refused: the full world stays", y.count(2), 6);
            CHECK.due("refused: the first saying stays", y.about(0, 4), 1);
            CHECK.due("refused: the last saying stays", y.about(9, 3), 6);
            CHECK.due("as many as there were", y.kinds(k), k);
            CHECK.due("the full world is empty", y.count(2), 0);
            CHECK.due("there is room for six", y.put((1 << k) - 1, 6), 0);
            for (int i = 0; i < 10; i++) {
                asAtFirst(y, i);
            }
            CHECK.due("all hold everywhere", y.can(1023), y.worlds());
        }
        sortsGoWithTheirKinds();
    }

    private static void asAtFirst(KindSayings x, int i) {
        int a = x.count(0) == 1 ? 0x2 : x.count(0) == 2 ? 0xa : x.count(0) == 3 ? 0xaa : 0xaaaa;
        int[] due = {0, a, a, 0, 0, 0};
        for (int what = 0; what < 6; what++) {
            CHECK.due("about(" + i + ", " + what + ") of k " + x.count(0), x.about(i, what), due[what]);
        }
    }

    /** Things of sorts that there are no more don't come back with their kinds. */
    private static void sortsGoWithTheirKinds() {
        KindSayings x = Made.of(4, 4);
        x.put(15, 6);
        x.kinds(1);
        CHECK.due("things", x.count(2), 0);
        CHECK.due("room for six", x.put(1, 6), 0);
        x.kinds(4);
        CHECK.due("things", x.count(2), 0);
        CHECK.due("of sort 15", x.put(15, 6), 0);
    }

    private static void most() {
        CHECK.sentence("N becomes v: what it was. BAD.");
        KindSayings x = new KindSayings();
        int[] row = {4, 1, 6, 6, 2, 5, 3};
        for (int i = 1; i < row.length; i++) {
            CHECK.due("most(" + row[i] + ")", x.most(row[i]), row[i - 1]);
            CHECK.due("N", x.count(1), row[i]);
        }
        for (int v : new int[] {0, 7, -1, Integer.MIN_VALUE, Integer.MAX_VALUE}) {
            CHECK.due("most(" + v + ")", x.most(v), BAD);
            CHECK.due("N behind it", x.count(1), 3);
            CHECK.due("worlds behind it", x.worlds(), 165);
        }
        KindSayings y = Made.told("least 2 A:A");
        y.put(7, 6);
        y.most(1);
        CHECK.due("a saying stays", y.about(0, 3), 2);
        CHECK.due("the full world stays", y.count(2), 6);
        CHECK.due("it holds there", y.holds(0), 1);
        CHECK.due("within N it can't", y.can(1), 0);
        y.most(2);
        CHECK.due("within two it can", Made.least(y, 1), "1 1");
    }

    private static void worlds() {
        CHECK.sentence("How many WORLDS there are of N THINGS at most.");
        CHECK.due("fewest", Made.of(1, 1).worlds(), 3);
        CHECK.due("one kind, six things", Made.of(1, 6).worlds(), 28);
        CHECK.due("four kinds, one thing", Made.of(4, 1).worlds(), 17);
        CHECK.due("most", Made.of(4, 6).worlds(), 74613);
        CHECK.due("gone through to the last", Made.of(4, 6).can(1023), 74613);
        KindSayings x = Made.of(4, 6);
        x.most(1);
        x.kinds(1);
        CHECK.due("fewest behind most", x.worlds(), 3);
        CHECK.due("gone through", x.can(1023), 3);
        x.most(6);
        x.kinds(4);
        CHECK.due("most behind fewest", x.worlds(), 74613);
        CHECK.due("gone through", x.can(0), 74613);
    }

    private static void put() {
        CHECK.sentence("THE WORLD has n THINGS of a SORT (0 .. 6): how many it had. BAD; FULL: more than 6 in all.");
        for (int sort = 0; sort < 8; sort++) {
            KindSayings x = new KindSayings();
            CHECK.due("six of sort " + sort, x.put(sort, 6), 0);
            CHECK.due("six again", x.put(sort, 6), 6);
            CHECK.due("seven", x.put(sort, 7), BAD);
            CHECK.due("less than none", x.put(sort, -1), BAD);
            CHECK.due("one of the next", x.put((sort + 1) % 8, 1), FULL);
            CHECK.due("none of the next", x.put((sort + 1) % 8, 0), 0);
            CHECK.due("things", x.count(2), 6);
            CHECK.due("none", x.put(sort, 0), 6);
            CHECK.due("none again", x.put(sort, 0), 0);
            CHECK.due("the world is empty", x.count(2), 0);
        }
        for (int had = 0; had <= 6; had++) {
            KindSayings x = new KindSayings();
            x.put(2, had);
            CHECK.due("one too many beside " + had, x.put(5, 7 - had), had == 0 ? BAD : FULL);
            CHECK.due("refused: none came", x.count(2), had);
            CHECK.due("just to six beside " + had, x.put(5, 6 - had), 0);
            CHECK.due("six in all", x.count(2), 6);
            CHECK.due("a sort that has some for less", x.put(5, 0), 6 - had);
        }
        sixOfSixSorts();
        numbersAtTheEnds();
    }

    private static void sixOfSixSorts() {
        KindSayings x = Made.of(4, 1);
        for (int sort = 0; sort < 6; sort++) {
            CHECK.due("one of sort " + sort + ", N does not bound it", x.put(sort, 1), 0);
        }
        for (int sort = 0; sort < 16; sort++) {
            CHECK.due("one more of sort " + sort, x.put(sort, sort < 6 ? 2 : 1), FULL);
            CHECK.due("how many it had", x.put(sort, sort < 6 ? 1 : 0), sort < 6 ? 1 : 0);
        }
    }

    private static void numbersAtTheEnds() {
        KindSayings x = new KindSayings();
        x.put(0, 6);
        for (int no : new int[] {Integer.MIN_VALUE, Integer.MAX_VALUE}) {
            CHECK.due("put(" + no + ", 0)", x.put(no, 0), BAD);
            CHECK.due("put(0, " + no + ")", x.put(0, no), BAD);
            CHECK.due("put(1, " + no + ")", x.put(1, no), BAD);
            CHECK.due("put(" + no + ", " + no + ")", x.put(no, no), BAD);
        }
        CHECK.due("things", x.count(2), 6);
    }

    private static void holds() {
        CHECK.sentence("Whether a SAYING HOLDS in THE WORLD. BAD.");
        KindSayings x = Made.told("some A:A", "no A:A", "all A:A", "all A:A", "all A:A", "all A:A", "all A:A", "all A:A",
            "all A:A", "some A:A");
        CHECK.due("the empty world, the first", x.holds(0), 0);
        CHECK.due("the empty world, its opposite", x.holds(1), 1);
        CHECK.due("the empty world, the last", x.holds(9), 0);
        x.put(1, 1);
        CHECK.due("of one thing, the first", x.holds(0), 1);
        CHECK.due("of one thing, its opposite", x.holds(1), 0);
        CHECK.due("of one thing, the last", x.holds(9), 1);
        x.put(1, 6);
        CHECK.due("of six things, the first", x.holds(0), 1);
        CHECK.due("of six things, the last", x.holds(9), 1);
        x.put(1, 0);
        CHECK.due("empty again", x.holds(0), 0);
        for (int i : new int[] {-1, 10, Integer.MIN_VALUE, Integer.MAX_VALUE}) {
            CHECK.due("holds(" + i + ")", x.holds(i), BAD);
        }
    }

    private static void size() {
        CHECK.sentence("How many THINGS of THE WORLD are of X (what = 0), Y (1), both (2) of a SAYING. BAD.");
        KindSayings x = Made.told("all A:B", "all A:A", "all A:A", "all A:A", "all A:A", "all A:A", "all A:A", "all A:A",
            "all A:A", "all A|!A:A&!A");
        sizes(x, 0, 0, 0, 0);
        sizes(x, 9, 0, 0, 0);
        Made.world(x, 1, 2, 1, 2);
        sizes(x, 0, 4, 3, 2);
        sizes(x, 9, 6, 0, 0);
        Made.world(x, 0, 0, 0, 0, 0, 0, 0, 6);
        sizes(x, 0, 6, 6, 6);
        sizes(x, 9, 6, 0, 0);
        Made.world(x, 0, 6);
        sizes(x, 0, 6, 0, 0);
        Made.world(x, 0, 0, 6);
        sizes(x, 0, 0, 6, 0);
        for (int no : new int[] {-1, 3, Integer.MIN_VALUE, Integer.MAX_VALUE}) {
            CHECK.due("size(0, " + no + ")", x.size(0, no), BAD);
        }
        for (int no : new int[] {-1, 10, Integer.MIN_VALUE, Integer.MAX_VALUE}) {
            CHECK.due("size(" + no + ", 0)", x.size(no, 0), BAD);
        }
    }

    private static void sizes(KindSayings x, int i, int... due) {
        for (int what = 0; what < 3; what++) {
            CHECK.due("size(" + i + ", " + what + ") of " + x.count(2) + " things", x.size(i, what), due[what]);
        }
    }

    public static void main(String[] args) {
        kindsThereAre();
        sortsThereAre();
        thingsInAll();
        order();
        worldAtFirst();
        newObject();
        kinds();
        most();
        worlds();
        put();
        holds();
        size();
        CHECK.finish();
    }
}
