/** The boundary cases of what can be and what follows: each of the document's sentences by itself. */
public final class CanBeBoundsTest {
    private static final int BAD = KindSayings.BAD, STATE = KindSayings.STATE, NONE = KindSayings.NONE;
    private static final int[] NO_SETS = {-1, 1024, 2047, Integer.MIN_VALUE, Integer.MAX_VALUE};
    private static final int[] NO_SAYINGS = {-1, 10, Integer.MIN_VALUE, Integer.MAX_VALUE};
    private static final int EVERY = 1023;
    private static final Check CHECK = new Check();

    private static void retold(KindSayings x, int i, String text) {
        CHECK.due("read of '" + text + "'", Check.tell(x, i, text), 1);
    }

    /** Ten sayings that hold everywhere, but for one. */
    private static KindSayings oneOfTen(int i, String text) {
        KindSayings x = new KindSayings();
        retold(x, i, text);
        return x;
    }

    // ---- terms

    private static void canBe() {
        CHECK.sentence("CAN BE: WORLDS of N THINGS at most in which all SAYINGS of a set (bits) HOLD: how many; the first of them "
            + "(LEAST WORLD).");
        // Of one kind and one thing at most there are three worlds: of none, of one not A, of one A.
        String[] texts = {"all A:A", "some A:A", "no A:A", "most A:A", "least 0 A:A", "least 1 A:A", "least 2 A:A", "just 0 A:A",
            "just 1 A:A", "more A:!A", "even A:!A", "all A:!A", "no A:!A", "most !A:!A", "more !A:A", "just 2 A:A"};
        int[] can = {3, 1, 2, 1, 3, 1, 0, 2, 1, 1, 1, 2, 3, 1, 1, 0};
        String[] least = {"", "1", "", "1", "", "1", "none", "", "1", "1", "", "", "", "0", "0", "none"};
        for (int i = 0; i < texts.length; i++) {
            KindSayings x = Made.of(1, 1, texts[i], "not " + texts[i]);
            CHECK.due("worlds of " + texts[i], x.can(1), can[i]);
            CHECK.due("worlds of not " + texts[i], x.can(2), 3 - can[i]);
            CHECK.due("worlds of both", x.can(3), 0);
            CHECK.due("the first of " + texts[i], Made.least(x, 1), least[i]);
        }
        for (int n = 1; n <= 5; n++) {
            KindSayings x = Made.of(3, n, "least " + n + " A:B", "least " + (n + 1) + " A:B", "just " + n + " A&B&C:A");
            CHECK.due("N of N, both", Made.least(x, 1), "3 ".repeat(n).trim());
            CHECK.due("N of N: sorts 3 and 7 alone", x.can(1), n + 1);
            CHECK.due("one more than N", x.can(2), 0);
            CHECK.due("N of one sort", x.can(4), 1);
            CHECK.due("N of the last sort", Made.least(x, 4), "7 ".repeat(n).trim());
        }
        bitsOfASet();
    }

    private static void bitsOfASet() {
        for (int i = 0; i < 10; i++) {
            KindSayings x = oneOfTen(i, "some A:A");
            for (int bit = 0; bit < 10; bit++) {
                CHECK.due("some A as " + i + ": can(" + (1 << bit) + ")", x.can(1 << bit), bit == i ? 425 : 495);
                CHECK.due("but " + bit, x.can(EVERY - (1 << bit)), bit == i ? 495 : 425);
            }
            CHECK.due("the empty set", x.can(0), 495);
            CHECK.due("the full set", x.can(EVERY), 425);
            CHECK.due("the first of the empty set", Made.least(x, 0), "");
            CHECK.due("the first of the full set", Made.least(x, EVERY), "1");
        }
    }

    private static void followsFrom() {
        CHECK.sentence("FOLLOWS: a SAYING from a set: it HOLDS in all WORLDS of the set.");
        // "least 4 A" fails in just one world of those with four things at most and three A at least: the first of them.
        KindSayings x = Made.of(1, 4, "least 3 A:A", "least 4 A:A", "least 4 A|!A:A|!A", "some !A:!A");
        CHECK.due("of three A a fourth", x.follows(1, 1), 0);
        CHECK.due("of three A and four things a fourth A", x.follows(5, 1), 0);
        CHECK.due("of four A three", x.follows(2, 0), 1);
        CHECK.due("of four A no more than four", x.follows(2, 2), 1);
        CHECK.due("of three A, four things, no fourth: others", x.follows(13, 3), 1);
        CHECK.due("of four A others: no world, all follow", x.follows(10, 0), 1);
        x.most(3);
        CHECK.due("within three there is none of four A", x.can(2), 0);
        for (int i = 0; i < 10; i++) {
            CHECK.due("of what cannot be follows " + i, x.follows(2, i), 1);
            CHECK.due("of the full set, that cannot be, " + i, x.follows(EVERY, i), 1);
        }
        CHECK.due("of nothing what holds everywhere", x.follows(0, 9), 1);
        CHECK.due("of nothing what does not", x.follows(0, 0), 0);
        CHECK.due("of nothing what holds nowhere", x.follows(0, 1), 0);
        CHECK.due("of itself", x.follows(1, 0), 1);
        for (int i = 0; i < 10; i++) {
            KindSayings y = oneOfTen(i, "no A:A");
            for (int other = 0; other < 10; other++) {
                CHECK.due("of the empty set, " + other, y.follows(0, other), other == i ? 0 : 1);
                CHECK.due("of the others, " + other, y.follows(EVERY - (1 << i), other), other == i ? 0 : 1);
                CHECK.due("of all, " + other, y.follows(EVERY, other), 1);
            }
        }
    }

    private static void firstAgainst() {
        CHECK.sentence("AGAINST: the first WORLD of the set in which it does not.");
        KindSayings x = Made.of(2, 3, "some A:A", "all A:A", "not least 3 A&B:A", "no A:A", "not least 0 A:A", "not some A:!B");
        CHECK.due("the empty world", Made.against(x, 0, 0), "");
        CHECK.due("nowhere", Made.against(x, 0, 1), "none");
        CHECK.due("the last of all", Made.against(x, 0, 2), "3 3 3");
        CHECK.due("of a set that has the empty world", Made.against(x, 8, 0), "");
        CHECK.due("of a set that has it not", Made.against(x, 1, 3), "1");
        CHECK.due("of a set from which it follows", Made.against(x, 1, 0), "none");
        CHECK.due("of one that holds nowhere, the set's first", Made.against(x, 1, 4), "1");
        CHECK.due("of it, the empty set's first", Made.against(x, 0, 4), "");
        CHECK.due("of two, A and no A not B", Made.against(x, 33, 3), "3");
        for (int i = 0; i < 10; i++) {
            CHECK.due("of a set without a world, " + i, Made.against(x, 9, i), "none");
            CHECK.due("of the full set, without one, " + i, Made.against(x, EVERY, i), "none");
        }
        x.most(2);
        CHECK.due("within two it always holds", Made.against(x, 0, 2), "none");
        for (int i = 0; i < 10; i++) {
            KindSayings y = oneOfTen(i, "no A:A");
            CHECK.due("against " + i, Made.against(y, EVERY - (1 << i), i), "1");
            CHECK.due("against another than " + i, Made.against(y, 0, (i + 1) % 10), "none");
        }
    }

    private static void left() {
        CHECK.sentence("UNSAID: of a set those SAYINGS that FOLLOW from the others of the set (each by itself).");
        KindSayings x = Made.told("some A:A", "least 1 A:A", "least 2 A:A", "no A:A", "not some A:A", "all B:B", "some B:B",
            "least 4 A:!A", "least 5 A:!A");
        CHECK.due("the empty set", x.unsaid(0), 0);
        CHECK.due("one alone", x.unsaid(1), 0);
        CHECK.due("one that holds everywhere", x.unsaid(32), 32);
        CHECK.due("it and one more", x.unsaid(33), 32);
        CHECK.due("two alike: each by itself", x.unsaid(3), 3);
        CHECK.due("a stronger one: both", x.unsaid(7), 3);
        CHECK.due("the stronger one alone stays", x.unsaid(5), 1);
        CHECK.due("one that cannot be, alone", x.unsaid(128), 0);
        CHECK.due("two that cannot be", x.unsaid(128 + 256), 128 + 256);
        CHECK.due("one that cannot be: what is beside it", x.unsaid(128 + 1), 1);
        CHECK.due("two that clash: none", x.unsaid(9), 0);
        CHECK.due("two that clash, and one beside", x.unsaid(9 + 64), 64);
        CHECK.due("clashing threefold: each", x.unsaid(1 + 2 + 8 + 16), 1 + 2 + 8 + 16);
        CHECK.due("the full set, that cannot be", x.unsaid(EVERY), EVERY);
        CHECK.due("the full set at first", new KindSayings().unsaid(EVERY), EVERY);
        for (int i = 0; i < 10; i++) {
            KindSayings y = oneOfTen(i, "some A:B");
            CHECK.due("all but " + i, y.unsaid(EVERY), EVERY - (1 << i));
            CHECK.due("the first at first, " + i + " alone", new KindSayings().unsaid(1 << i), 1 << i);
        }
    }

    private static void fewestThatClash() {
        CHECK.sentence("CLASH: of a set the fewest SAYINGS that cannot be together (within N); of several the least set; NONE.");
        KindSayings x = Made.told("all A:B", "all B:C", "some A:!C", "some B:B", "no B:B", "least 4 C:C", "least 5 C:C",
            "not least 0 A:A");
        clashes(x, 0, NONE);
        clashes(x, 1, NONE);
        clashes(x, 7, 7);
        clashes(x, 15, 7);
        // Two are fewer than three, though their set is greater.
        clashes(x, 31, 24);
        // One is fewer than two.
        clashes(x, 127, 64);
        clashes(x, 255, 64);
        clashes(x, 191, 128);
        clashes(x, 128, 128);
        // Just within N.
        clashes(x, 32, NONE);
        clashes(x, 64, 64);
        x.most(5);
        clashes(x, 64, NONE);
        x.most(3);
        clashes(x, 32, 32);
        clashes(x, 96, 32);
        KindSayings y = Made.told("some A:A", "some B:B", "some C:C", "no C:C", "no B:B", "no A:A");
        // Pairs 33, 18, 12: the least set.
        clashes(y, 63, 12);
        clashes(y, 63 - 4, 18);
        clashes(y, 63 - 4 - 2, 33);
        clashes(y, 63 - 4 - 2 - 1, NONE);
        clashes(new KindSayings(), EVERY, NONE);
        tenThatClash();
    }

    /** A thing at most: it is not of sort 0, .., not of sort 8, and of one of these; nine of the ten can be together. */
    private static void tenThatClash() {
        String[] texts = new String[10];
        for (int sort = 0; sort < 9; sort++) {
            StringBuilder text = new StringBuilder("some !(");
            for (int kind = 0; kind < 4; kind++) {
                text.append(kind > 0 ? "&" : "").append((sort >> kind & 1) == 1 ? "" : "!").append((char) ('A' + kind));
            }
            texts[sort] = text + "):A|!A";
        }
        texts[9] = "some !D|!A&!B&!C:A|!A";
        KindSayings x = Made.of(4, 1, texts);
        clashes(x, EVERY, EVERY);
        for (int i = 0; i < 10; i++) {
            clashes(x, EVERY - (1 << i), NONE);
            CHECK.due("what follows from nine is not the tenth", x.follows(EVERY - (1 << i), i), 0);
        }
        CHECK.due("of ten that clash none could be left unsaid", x.unsaid(EVERY), 0);
    }

    private static void clashes(KindSayings x, int set, int due) {
        CHECK.due("clash(" + set + ", 1)", x.clash(set, 1), due);
        CHECK.due("clash(" + set + ", 0)", x.clash(set, 0), due == NONE ? NONE : Integer.bitCount(due));
    }

    private static void whatToAsk() {
        CHECK.sentence("ASK: of all SAYINGS that one for which, of the WORLDS of a set, the greater of those where it HOLDS and those "
            + "where it does not is least; of several the first.");
        CHECK.due("all alike: the first", new KindSayings().ask(0), 0);
        CHECK.due("all alike, the full set", new KindSayings().ask(EVERY), 0);
        for (int i = 0; i < 10; i++) {
            KindSayings x = oneOfTen(i, "some A:A");
            CHECK.due("the one that parts", x.ask(0), i);
            CHECK.due("told itself it parts no more", x.ask(1 << i), 0);
            CHECK.due("told but it", x.ask(EVERY - (1 << i)), i);
            KindSayings y = oneOfTen(i, "not least 0 A:A");
            CHECK.due("always and never part alike: the first", y.ask(0), 0);
            CHECK.due("no world", y.ask(1 << i), STATE);
        }
        // Six worlds of one kind and two things: as "", 0, 1, 00, 01, 11.
        KindSayings x = Made.of(1, 2, "least 2 !A:!A", "least 2 A:A", "just 1 A:A", "not just 1 A:A", "some A:A", "no A:A");
        CHECK.due("in 1, 1, 2, 4, 3, 3 of six: the three", x.ask(0), 4);
        retold(x, 4, "all A:A");
        CHECK.due("the other three", x.ask(0), 5);
        retold(x, 5, "all A:A");
        CHECK.due("two and four of six are alike", x.ask(0), 2);
        retold(x, 2, "not just 1 A:A");
        retold(x, 3, "just 1 A:A");
        CHECK.due("four and two of six are alike", x.ask(0), 2);
        CHECK.due("one world: the first", x.ask(1), 0);
        retold(x, 9, "some A|!A:A|!A");
        // Of the worlds 0, 1, 00, 01, 11: 1, 1, 3, 2 and always.
        CHECK.due("three of five", x.ask(512), 2);
    }

    private static void intoHeaps() {
        CHECK.sentence("HEAPS: into how many heaps the WORLDS fall, two in one if just the same SAYINGS HOLD.");
        CHECK.due("all in one", new KindSayings().heaps(0), 1);
        CHECK.due("all in one, the full set", new KindSayings().heaps(EVERY), 1);
        for (int i = 0; i < 10; i++) {
            KindSayings x = oneOfTen(i, "some A:A");
            CHECK.due("two by saying " + i, x.heaps(0), 2);
            CHECK.due("two by it, the others told", x.heaps(EVERY - (1 << i)), 2);
            CHECK.due("one where it is told", x.heaps(1 << i), 1);
            KindSayings y = oneOfTen(i, "not least 0 A:A");
            CHECK.due("one by what holds nowhere", y.heaps(0), 1);
            CHECK.due("none of no world", y.heaps(1 << i), 0);
            CHECK.due("none of the full set", y.heaps(EVERY), 0);
        }
        KindSayings x = Made.of(1, 4, "least 1 A:A", "least 2 A:A", "least 3 A:A", "least 4 A:A", "least 1 !A:!A", "least 2 !A:!A",
            "least 3 !A:!A", "least 4 !A:!A");
        CHECK.due("each world by itself", x.heaps(0), 15);
        CHECK.due("those of four A", x.heaps(8), 1);
        CHECK.due("those of four A and others", x.heaps(24), 0);
        CHECK.due("those of two A", x.heaps(2), 6);
        noneHold();
    }

    /** The worlds in which no saying holds are a heap too, told over and over. */
    private static void noneHold() {
        KindSayings x = Made.of(1, 4, "some A:A", "some A:A", "some A:A", "some A:A", "some A:A", "some A:A", "some A:A",
            "some A:A", "some A:A", "some A:A");
        for (int turn = 0; turn < 20; turn++) {
            CHECK.due("all hold or none", x.heaps(0), 2);
            CHECK.due("all hold", x.heaps(EVERY), 1);
            CHECK.due("all worlds", x.can(0), 15);
            CHECK.due("where all hold", x.can(EVERY), 10);
            CHECK.due("the first of all", Made.least(x, 0), "");
            CHECK.due("the first against", Made.against(x, 0, 9), "");
            CHECK.due("what parts them", x.ask(0), 0);
            retold(x, turn % 10, turn < 10 ? "least 1 A:A" : "not no A:A");
        }
    }

    private static void another() {
        CHECK.sentence("TWIN: another SAYING that HOLDS in just the same WORLDS.");
        KindSayings x = Made.told("some A:A", "no A:A", "least 1 A:A", "least 5 A:A", "not least 0 A:A", "some A:B", "some B:B",
            "least 4 A:B", "some A:A|B", "just 4 A:B");
        int[] due = {2, NONE, 0, 4, 3, NONE, NONE, 9, 0, 7};
        for (int i = 0; i < 10; i++) {
            CHECK.due("twin(" + i + ")", x.twin(i), due[i]);
        }
        x.most(5);
        CHECK.due("four and just four within five", x.twin(9), NONE);
        CHECK.due("five can be within five", x.twin(3), NONE);
        x.most(3);
        CHECK.due("none of them within three: the first of these", x.twin(3), 4);
        CHECK.due("and of those", x.twin(9), 3);
    }

    // ---- promises

    private static void can() {
        CHECK.sentence("CAN BE: in how many WORLDS. BAD: sets 0 .. 1023.");
        KindSayings x = new KindSayings();
        CHECK.due("the empty set", x.can(0), 495);
        CHECK.due("the full set", x.can(1023), 495);
        for (int set : NO_SETS) {
            CHECK.due("can(" + set + ")", x.can(set), BAD);
        }
        retold(x, 9, "not least 0 A:A");
        CHECK.due("the full set, no world", x.can(1023), 0);
        CHECK.due("all but the last", x.can(511), 495);
        retold(x, 9, "least 4 A&B&C:A");
        CHECK.due("one world", x.can(1023), 1);
        // More worlds than sixteen bits count, and of them all but one.
        KindSayings y = Made.of(4, 6, "not least 6 A&B&C&D:A", "least 6 A&B&C&D:A");
        CHECK.due("all but one of 74613", y.can(1), 74612);
        CHECK.due("one of 74613", y.can(2), 1);
        CHECK.due("all of 74613", y.can(1020), 74613);
    }

    private static void least() {
        CHECK.sentence("LEAST WORLD: how many THINGS (sort = -1), of a SORT; NONE. BAD.");
        KindSayings x = Made.told("some A:A", "no A:A", "least 4 A&B&C:A");
        CHECK.due("of the empty world", x.least(0, -1), 0);
        CHECK.due("of its first sort", x.least(0, 0), 0);
        CHECK.due("of its last sort", x.least(0, 7), 0);
        CHECK.due("one thing", x.least(1, -1), 1);
        CHECK.due("of sort 1", x.least(1, 1), 1);
        CHECK.due("of sort 0", x.least(1, 0), 0);
        CHECK.due("of N things", x.least(4, -1), 4);
        CHECK.due("of the last sort", x.least(4, 7), 4);
        CHECK.due("of the one ahead", x.least(4, 6), 0);
        for (int sort = -1; sort < 8; sort++) {
            CHECK.due("no world: " + sort, x.least(3, sort), NONE);
            CHECK.due("the full set, no world: " + sort, x.least(EVERY, sort), NONE);
        }
        for (int sort : new int[] {-2, 8, 15, NONE, Integer.MIN_VALUE, Integer.MAX_VALUE}) {
            CHECK.due("least(0, " + sort + ")", x.least(0, sort), BAD);
            CHECK.due("least(3, " + sort + ")", x.least(3, sort), BAD);
        }
        for (int set : NO_SETS) {
            CHECK.due("least(" + set + ", -1)", x.least(set, -1), BAD);
            CHECK.due("least(" + set + ", 0)", x.least(set, 0), BAD);
        }
    }

    private static void follows() {
        CHECK.sentence("Whether a SAYING FOLLOWS. BAD.");
        KindSayings x = Made.told("some A:A");
        CHECK.due("the first of the empty set", x.follows(0, 0), 0);
        CHECK.due("the last of the empty set", x.follows(0, 9), 1);
        CHECK.due("the first of the full set", x.follows(1023, 0), 1);
        CHECK.due("the last of the full set", x.follows(1023, 9), 1);
        for (int set : NO_SETS) {
            CHECK.due("follows(" + set + ", 0)", x.follows(set, 0), BAD);
        }
        for (int i : NO_SAYINGS) {
            CHECK.due("follows(0, " + i + ")", x.follows(0, i), BAD);
        }
    }

    private static void against() {
        CHECK.sentence("AGAINST: how many THINGS (sort = -1), of a SORT; NONE. BAD.");
        KindSayings x = Made.told("not least 4 A&B&C:A", "some A:A");
        CHECK.due("N things", x.against(0, 0, -1), 4);
        CHECK.due("of the last sort", x.against(0, 0, 7), 4);
        CHECK.due("of the first sort", x.against(0, 0, 0), 0);
        CHECK.due("the empty world", x.against(0, 1, -1), 0);
        CHECK.due("of its last sort", x.against(0, 1, 7), 0);
        for (int sort = -1; sort < 8; sort++) {
            CHECK.due("it follows: " + sort, x.against(0, 9, sort), NONE);
            CHECK.due("of the full set it follows: " + sort, x.against(EVERY, 0, sort), NONE);
        }
        for (int sort : new int[] {-2, 8, 15, NONE, Integer.MIN_VALUE, Integer.MAX_VALUE}) {
            CHECK.due("against(0, 0, " + sort + ")", x.against(0, 0, sort), BAD);
            CHECK.due("against(0, 9, " + sort + ")", x.against(0, 9, sort), BAD);
        }
        for (int set : NO_SETS) {
            CHECK.due("against(" + set + ", 0, -1)", x.against(set, 0, -1), BAD);
        }
        for (int i : NO_SAYINGS) {
            CHECK.due("against(0, " + i + ", -1)", x.against(0, i, -1), BAD);
        }
    }

    private static void unsaid() {
        CHECK.sentence("UNSAID, as bits. BAD.");
        KindSayings x = Made.told("some A:A");
        CHECK.due("of the empty set", x.unsaid(0), 0);
        CHECK.due("of the full set", x.unsaid(1023), 1022);
        CHECK.due("the last bit", x.unsaid(513), 512);
        for (int set : NO_SETS) {
            CHECK.due("unsaid(" + set + ")", x.unsaid(set), BAD);
        }
    }

    private static void clash() {
        CHECK.sentence("CLASH: how many (what = 0), the set (1); NONE. BAD.");
        KindSayings x = oneOfTen(9, "not least 0 A:A");
        CHECK.due("how many of the full set", x.clash(1023, 0), 1);
        CHECK.due("the set of the full set", x.clash(1023, 1), 512);
        CHECK.due("how many of the empty set", x.clash(0, 0), NONE);
        CHECK.due("the set of the empty set", x.clash(0, 1), NONE);
        CHECK.due("how many of all but it", x.clash(511, 0), NONE);
        CHECK.due("the set of all but it", x.clash(511, 1), NONE);
        for (int what : new int[] {-1, 2, Integer.MIN_VALUE, Integer.MAX_VALUE}) {
            CHECK.due("clash(0, " + what + ")", x.clash(0, what), BAD);
            CHECK.due("clash(1023, " + what + ")", x.clash(1023, what), BAD);
        }
        for (int set : NO_SETS) {
            CHECK.due("clash(" + set + ", 0)", x.clash(set, 0), BAD);
            CHECK.due("clash(" + set + ", 1)", x.clash(set, 1), BAD);
        }
    }

    private static void ask() {
        CHECK.sentence("ASK. BAD; STATE: the set has no WORLD.");
        KindSayings x = oneOfTen(9, "least 5 A:A");
        CHECK.due("the empty set", x.ask(0), 0);
        CHECK.due("no world", x.ask(512), STATE);
        CHECK.due("the full set, no world", x.ask(1023), STATE);
        CHECK.due("all but it", x.ask(511), 0);
        for (int set : NO_SETS) {
            CHECK.due("ask(" + set + ")", x.ask(set), BAD);
        }
        x.most(5);
        CHECK.due("within five there is one", x.ask(512), 0);
        retold(x, 9, "least 5 A&B&C:A");
        CHECK.due("just one", x.ask(1023), 0);
        CHECK.due("it parts one from the others", x.ask(0), 9);
    }

    private static void heaps() {
        CHECK.sentence("HEAPS of a set's WORLDS. BAD.");
        KindSayings x = oneOfTen(9, "least 5 A:A");
        CHECK.due("the empty set", x.heaps(0), 1);
        CHECK.due("the full set, no world", x.heaps(1023), 0);
        for (int set : NO_SETS) {
            CHECK.due("heaps(" + set + ")", x.heaps(set), BAD);
        }
        x.most(6);
        CHECK.due("the empty set within six", x.heaps(0), 2);
        CHECK.due("the full set within six", x.heaps(1023), 1);
    }

    private static void twin() {
        CHECK.sentence("The first other SAYING that is a TWIN; NONE. BAD.");
        for (int i = 0; i < 10; i++) {
            KindSayings x = oneOfTen(i, "some A:A");
            CHECK.due("no twin of " + i, x.twin(i), NONE);
            CHECK.due("of the first of the others", x.twin(i == 0 ? 1 : 0), i == 0 ? 2 : i == 1 ? 2 : 1);
            CHECK.due("of the last of the others", x.twin(i == 9 ? 8 : 9), i == 0 ? 1 : 0);
            KindSayings y = Made.told();
            retold(y, i, "some A:A");
            retold(y, (i + 7) % 10, "not no A:A");
            CHECK.due("the twin of " + i, y.twin(i), (i + 7) % 10);
            CHECK.due("and the other way", y.twin((i + 7) % 10), i);
        }
        for (int i : NO_SAYINGS) {
            CHECK.due("twin(" + i + ")", new KindSayings().twin(i), BAD);
        }
    }

    /** Each reading, kinds and most tell on the questions behind them. */
    private static void toldAnew() {
        CHECK.sentence("HEAPS of a set's WORLDS. BAD.");
        KindSayings x = Made.told("some A:A", "no A:A");
        CHECK.due("clashing", x.can(3), 0);
        retold(x, 1, "no B:B");
        CHECK.due("told anew", x.can(3), 55);
        retold(x, 1, "some A:A");
        CHECK.due("twins", x.twin(0), 1);
        retold(x, 0, "all A:A");
        CHECK.due("no more", x.twin(1), NONE);
        CHECK.due("heaps", x.heaps(0), 2);
        x.kinds(3);
        CHECK.due("as at first", x.heaps(0), 1);
        CHECK.due("twins as at first", x.twin(9), 0);
        retold(x, 5, "least 2 A:A");
        CHECK.due("within four", x.can(32), 285);
        x.most(1);
        CHECK.due("within one", x.can(32), 0);
        x.most(4);
        CHECK.due("within four again", x.can(32), 285);
    }

    /** The last of 512 calls answers as the first, with the most worlds and each of them gone through anew. */
    private static void allCalls() {
        CHECK.sentence("An object is used for at most 512 calls after it has been made;");
        KindSayings x = new KindSayings();
        x.kinds(4);
        x.most(6);
        // Of 74613 worlds those without one of the kinds: of eight sorts, 3003.
        for (int turn = 0; turn < 85; turn++) {
            x.type(Check.packed("some A:A"), 8);
            CHECK.due("read", x.read(turn % 10), 1);
            CHECK.due("can where there is some A", x.can(1 << turn % 10), 74613 - 3003);
            x.type(Check.packed(" no A:A "), 8);
            CHECK.due("read", x.read(turn % 10), 1);
            CHECK.due("can where there is none", x.can(1 << turn % 10), 3003);
        }
    }

    public static void main(String[] args) {
        allCalls();
        canBe();
        followsFrom();
        firstAgainst();
        left();
        fewestThatClash();
        whatToAsk();
        intoHeaps();
        another();
        can();
        least();
        follows();
        against();
        unsaid();
        clash();
        ask();
        heaps();
        twin();
        toldAnew();
        CHECK.finish();
    }
}
