/** The boundary cases of facts and moods, and of what can be counted: each of the document's sentences by itself. */
public final class MoodBoundsTest {
    private static final int BAD = KindSayings.BAD, NONE = KindSayings.NONE;
    private static final int[] NO_SETS = {-1, 1024, 2047, Integer.MIN_VALUE, Integer.MAX_VALUE};
    private static final String[] WORDS = {"all ", "some ", "no ", "not all "};
    private static final int ALL = 0, SOME = 1, NO = 2, NOT_ALL = 3;
    private static final int EVERY = 1023;
    private static final Check CHECK = new Check();

    private static KindSayings withMoods(KindSayings x, int bits) {
        x.moods(bits);
        return x;
    }

    private static String text(int what, int x, int y) {
        return WORDS[what] + (char) ('A' + x) + ":" + (char) ('A' + y);
    }

    private static int number(int what, int x, int y) {
        return 16 * what + 4 * x + y;
    }

    /** When a fact comes, by which mood, of which facts. */
    private static void comes(KindSayings x, int set, int fact, int... due) {
        int what = fact / 16;
        int a = fact / 4 % 4;
        int b = fact % 4;
        // Each question stands for itself: another set is asked about ahead of it.
        x.shown(EVERY - set, 0);
        CHECK.due("round of " + text(what, a, b), x.round(set, what, a, b), due[0]);
        for (int part = 0; part < 3; part++) {
            x.shown(EVERY - set, 0);
            CHECK.due("part " + part + " by which " + text(what, a, b) + " comes", x.by(set, what, a, b, part), due[part + 1]);
        }
    }

    private static void isTold(KindSayings x, int set, int fact) {
        comes(x, set, fact, 0, NONE, NONE, NONE);
    }

    private static void neverComes(KindSayings x, int set, int fact) {
        comes(x, set, fact, NONE, NONE, NONE, NONE);
    }

    // ---- terms

    private static void plain() {
        CHECK.sentence("PLAIN are \"all\", \"some\", \"no\" and \"not\" \"all\" of one KIND each (X a KIND, Y a KIND, told just so; "
            + "\"not\" \"some\" is \"no\", \"not\" \"no\" is \"some\").");
        String[] heads = {"all ", "not all ", "some ", "not some ", "no ", "not no "};
        int[] facts = {ALL, NOT_ALL, SOME, NO, NO, SOME};
        for (int i = 0; i < heads.length; i++) {
            for (int k = 1; k <= 4; k++) {
                String last = String.valueOf((char) ('A' + k - 1));
                KindSayings x = Made.of(k, 1, heads[i] + "A:A", heads[i] + last + ":" + last, " " + heads[i] + " A  : " + last + " ");
                CHECK.due(heads[i] + "of the first kind", x.about(0, 5), number(facts[i], 0, 0));
                CHECK.due(heads[i] + "of the last kind", x.about(1, 5), number(facts[i], k - 1, k - 1));
                CHECK.due(heads[i] + "with blanks", x.about(2, 5), number(facts[i], 0, k - 1));
                CHECK.due("plain ones", x.count(4), EVERY);
            }
            for (String sides : new String[] {"(A):B", "A:(B)", "!!A:B", "A:!!B", "!A:B", "A:!B", "A|A:B", "A:B|B", "A&A:B", "A:B&B",
                "A|B:B", "(A):(B)", "!(!A):B", "((A)):B"}) {
                KindSayings x = Made.told(heads[i] + sides);
                CHECK.due("fact of " + heads[i] + sides, x.about(0, 5), NONE);
                CHECK.due("plain ones beside " + heads[i] + sides, x.count(4), EVERY - 1);
            }
        }
        for (String word : new String[] {"most ", "least 0 ", "least 1 ", "least 6 ", "just 0 ", "more ", "even "}) {
            KindSayings x = Made.told(word + "A:B", "not " + word + "A:B");
            CHECK.due("fact of " + word, x.about(0, 5), NONE);
            CHECK.due("fact of not " + word, x.about(1, 5), NONE);
            CHECK.due("plain ones beside them", x.count(4), EVERY - 3);
        }
    }

    private static void eachFact() {
        CHECK.sentence("FACTS: such ones of KINDS x, y: 0 all, 1 some, 2 no, 3 not all.");
        for (int fact = 0; fact < 64; fact++) {
            KindSayings x = withMoods(Made.of(4, 1, text(fact / 16, fact / 4 % 4, fact % 4)), 0);
            CHECK.due("its number", x.about(0, 5), fact);
            CHECK.due("facts of it alone", x.shown(1, 0), 1);
            CHECK.due("facts of none", x.shown(0, 0), 0);
            isTold(x, 1, fact);
            neverComes(x, 1, (fact + 1) % 64);
            neverComes(x, 1, (fact + 63) % 64);
            neverComes(x, 0, fact);
        }
    }

    private static void whichMoods() {
        CHECK.sentence("MOODS (which may be used: bits; all at first but 8):");
        KindSayings x = Made.told("all A:B");
        neverComes(x, 1, number(SOME, 0, 1));
        comes(x, 0, number(ALL, 2, 2), 0, 7, NONE, NONE);
        CHECK.due("moods at first", x.moods(511), 255);
        comes(x, 1, number(SOME, 0, 1), 1, 8, 1, NONE);
        CHECK.due("all moods", x.moods(0), 511);
        neverComes(x, 1, number(SOME, 0, 1));
        neverComes(x, 1, number(ALL, 2, 2));
        isTold(x, 1, number(ALL, 0, 1));
        CHECK.due("no mood", x.moods(256), 0);
        comes(x, 1, number(SOME, 0, 1), 1, 8, 1, NONE);
        neverComes(x, 1, number(ALL, 2, 2));
    }

    /** A mood of three kinds: what it takes and what it shows, where kinds are the same too. */
    private static void moodOfThree(String sentence, int mood, int first, int second, int shows) {
        CHECK.sentence(sentence);
        for (int xyz = 0; xyz < 64; xyz++) {
            int x = xyz / 16;
            int y = xyz / 4 % 4;
            int z = xyz % 4;
            boolean lack = mood == 6;
            int one = number(first, x, lack ? z : y);
            int two = number(second, y, z);
            shownByOneMood(mood, one, two, number(shows, x, lack ? y : z));
        }
    }

    private static void shownByOneMood(int mood, int one, int two, int fact) {
        KindSayings x = Made.of(4, 1, text(one / 16, one / 4 % 4, one % 4),
            two == NONE ? text(one / 16, one / 4 % 4, one % 4) : text(two / 16, two / 4 % 4, two % 4));
        x.moods(1 << mood);
        if (fact == one || fact == two) {
            isTold(x, 3, fact);
        } else {
            comes(x, 3, fact, 1, mood, one, two);
            if (two != NONE) {
                CHECK.due("of the first alone", x.round(1, fact / 16, fact / 4 % 4, fact % 4), NONE);
                CHECK.due("of the second alone", x.round(2, fact / 16, fact / 4 % 4, fact % 4), NONE);
            }
        }
        CHECK.due("without it", withMoods(x, 0).shown(3, 1), 0);
    }

    private static void eachMood() {
        moodOfThree("0 all x y, all y z: all x z.", 0, ALL, ALL, ALL);
        moodOfThree("1 all x y, no y z: no x z.", 1, ALL, NO, NO);
        moodOfThree("2 some x y, all y z: some x z.", 2, SOME, ALL, SOME);
        moodOfThree("3 some x y, no y z: not all x z.", 3, SOME, NO, NOT_ALL);
        moodOfThree("6 not all x z, all y z: not all x y.", 6, NOT_ALL, ALL, NOT_ALL);
        for (int xy = 0; xy < 16; xy++) {
            int turned = 4 * (xy % 4) + xy / 4;
            CHECK.sentence("4 no x y: no y x.");
            shownByOneMood(4, number(NO, 0, 0) + xy, NONE, number(NO, 0, 0) + turned);
            CHECK.sentence("5 some x y: some y x.");
            shownByOneMood(5, number(SOME, 0, 0) + xy, NONE, number(SOME, 0, 0) + turned);
            CHECK.sentence("8 all x y: some x y (there is some x).");
            shownByOneMood(8, xy, NONE, number(SOME, 0, 0) + xy);
            CHECK.due("no further fact", withMoods(Made.of(4, 1, text(ALL, xy / 4, xy % 4)), 256).shown(1, 0), 2);
        }
        CHECK.sentence("7 all x x.");
        for (int k = 1; k <= 4; k++) {
            KindSayings x = withMoods(Made.of(k, 1), 128);
            for (int xy = 0; xy < 16; xy++) {
                if (xy / 4 < k && xy % 4 < k) {
                    comes(x, 0, xy, xy % 5 == 0 ? new int[] {0, 7, NONE, NONE} : new int[] {NONE, NONE, NONE, NONE});
                }
            }
            CHECK.due("as many as kinds", x.shown(0, 0), k);
        }
        // The moods of three kinds show nothing of facts that have no kind between them.
        KindSayings x = withMoods(Made.of(4, 1, "all A:B", "all C:D", "no D:A", "some C:B", "not all B:A"), 1 + 2 + 4 + 8 + 64);
        CHECK.due("all A B, all C D meet nowhere", x.shown(3, 0), 2);
        CHECK.due("all A B, no D A", x.shown(5, 0), 2);
        CHECK.due("some C B, all A B", x.shown(9, 0), 2);
        CHECK.due("some C B, all C D", x.shown(10, 0), 2);
        CHECK.due("not all B A, all A B", x.shown(17, 0), 2);
    }

    private static void rounds() {
        CHECK.sentence("ROUNDS: round 0 has the FACTS that a set's PLAIN SAYINGS tell (and all x x by MOOD 7); in each round all that "
            + "a MOOD shows of those by then come.");
        CHECK.sentence("ROUND of a FACT; NONE: never.");
        KindSayings x = Made.of(4, 1, "all A:B", "all B:C", "all C:D", "even A:B", "all C:C");
        isTold(x, 1, number(ALL, 0, 1));
        isTold(x, 16, number(ALL, 2, 2));
        comes(x, 1, number(ALL, 2, 2), 0, 7, NONE, NONE);
        comes(x, 8, number(ALL, 0, 0), 0, 7, NONE, NONE);
        neverComes(x, 8, number(ALL, 0, 1));
        comes(x, 7, number(ALL, 0, 2), 1, 0, number(ALL, 0, 1), number(ALL, 1, 2));
        comes(x, 7, number(ALL, 1, 3), 1, 0, number(ALL, 1, 2), number(ALL, 2, 3));
        comes(x, 7, number(ALL, 0, 3), 2, 0, number(ALL, 0, 1), number(ALL, 1, 3));
        neverComes(x, 7, number(ALL, 3, 0));
        neverComes(x, 3, number(ALL, 0, 3));
        elevenRounds();
        each();
    }

    /**
     * B, A, D, C are a chain of "all"; from "some B B" each "some" comes one round a step down on its second side or a turn,
     * from "no C C" each "not all" behind the "some" that reaches C, one round a step up: eleven rounds in all.
     */
    private static void elevenRounds() {
        KindSayings x = withMoods(Made.of(4, 1, "all B:A", "all A:D", "all D:C", "some B:B", "no C:C"), 4 + 8 + 32 + 64);
        int[] chain = {1, 0, 3, 2};
        int set = 31;
        for (int p = 0; p < 4; p++) {
            for (int q = 0; q < 4; q++) {
                int a = chain[p];
                int b = chain[q];
                int round = p == 0 ? q : p + q + 1;
                if (p == 0 && q == 0) {
                    isTold(x, set, number(SOME, a, b));
                } else if (q == 0) {
                    comes(x, set, number(SOME, a, b), round, 5, number(SOME, b, a), NONE);
                } else {
                    comes(x, set, number(SOME, a, b), round, 2, number(SOME, a, chain[q - 1]), number(ALL, chain[q - 1], b));
                }
                int reach = p == 0 ? 3 : p + 4;
                if (q == 3) {
                    comes(x, set, number(NOT_ALL, a, b), reach + 1, 3, number(SOME, a, 2), number(NO, 2, 2));
                } else {
                    comes(x, set, number(NOT_ALL, a, b), reach + 4 - q, 6, number(NOT_ALL, a, chain[q + 1]),
                        number(ALL, b, chain[q + 1]));
                }
            }
        }
        CHECK.due("rounds", x.shown(set, 1), 11);
        CHECK.due("facts", x.shown(set, 0), 3 + 16 + 1 + 16);
        CHECK.due("rounds without the end", x.shown(15, 1), 7);
        CHECK.due("facts without it", x.shown(15, 0), 3 + 16);
    }

    /** All facts of four kinds that there are. */
    private static void each() {
        KindSayings x = Made.of(4, 1, "all A:B", "all B:C", "all C:D", "all D:A", "some A:A", "no A:A");
        for (int fact = 0; fact < 64; fact++) {
            CHECK.due("fact " + fact + " comes", x.round(63, fact / 16, fact / 4 % 4, fact % 4) >= 0 ? 1 : 0, 1);
        }
        CHECK.due("all of them", x.shown(63, 0), 64);
        CHECK.due("a quarrel", x.shown(63, 2), 1);
        CHECK.due("none beyond", x.shown(63, 3), 0);
    }

    private static void by() {
        CHECK.sentence("BY: the least MOOD that shows it of FACTS of rounds ahead of its own, and with that the least FACTS (the first, "
            + "then the second; a FACT's number is 16 times what it is, 4 times x, and y).");
        // Two moods in one round.
        KindSayings x = Made.of(4, 1, "some A:C", "some C:B", "all B:A", "all C:A");
        comes(x, 7, number(SOME, 2, 0), 1, 2, number(SOME, 2, 1), number(ALL, 1, 0));
        comes(x, 1, number(SOME, 2, 0), 1, 5, number(SOME, 0, 2), NONE);
        comes(withMoods(x, 255 - 4), 7, number(SOME, 2, 0), 1, 5, number(SOME, 0, 2), NONE);
        // The lesser mood could show it only of what comes in its own round.
        KindSayings y = Made.of(4, 1, "some A:C", "some B:C", "all B:A");
        comes(y, 7, number(SOME, 2, 1), 1, 5, number(SOME, 1, 2), NONE);
        comes(y, 7, number(SOME, 2, 0), 1, 5, number(SOME, 0, 2), NONE);
        // Two ways of one mood: the least first fact.
        KindSayings two = Made.of(4, 1, "all A:C", "all C:D", "all A:B", "all B:D");
        comes(two, 15, number(ALL, 0, 3), 1, 0, number(ALL, 0, 1), number(ALL, 1, 3));
        comes(two, 3, number(ALL, 0, 3), 1, 0, number(ALL, 0, 2), number(ALL, 2, 3));
        KindSayings lack = Made.of(4, 1, "not all A:C", "all D:C", "not all A:B", "all D:B");
        comes(lack, 15, number(NOT_ALL, 0, 3), 1, 6, number(NOT_ALL, 0, 1), number(ALL, 3, 1));
        // The least way takes a fact of the same round, so it is the other.
        KindSayings same = Made.of(4, 1, "all A:C", "all C:D", "all C:B", "all B:D");
        comes(same, 15, number(ALL, 0, 1), 1, 0, number(ALL, 0, 2), number(ALL, 2, 1));
        comes(same, 15, number(ALL, 0, 3), 1, 0, number(ALL, 0, 2), number(ALL, 2, 3));
        // Facts of the round just ahead, and of those before it, do.
        KindSayings late = Made.of(4, 1, "all A:B", "all B:C", "some D:A", "all C:D");
        comes(late, 7, number(SOME, 3, 2), 2, 2, number(SOME, 3, 0), number(ALL, 0, 2));
        comes(late, 7, number(SOME, 2, 3), 3, 5, number(SOME, 3, 2), NONE);
        // The least fact and the greatest, as what is taken and as what is shown.
        comes(withMoods(Made.of(4, 1, "all A:A"), 256), 1, number(SOME, 0, 0), 1, 8, 0, NONE);
        comes(withMoods(Made.of(4, 1, "not all D:D", "all A:D"), 64), 3, number(NOT_ALL, 3, 0), 1, 6, 63, 3);
        comes(withMoods(Made.of(4, 1, "not all D:A", "all D:A"), 64), 3, 63, 1, 6, 60, 12);
        comes(withMoods(Made.of(4, 1, "all A:B", "all B:A"), 1), 3, 0, 1, 0, 1, 4);
        // What is told is not shown, though a mood would.
        KindSayings told = Made.of(4, 1, "all A:B", "all B:C", "all A:C", "all D:D");
        isTold(told, 7, number(ALL, 0, 2));
        comes(told, 3, number(ALL, 0, 2), 1, 0, number(ALL, 0, 1), number(ALL, 1, 2));
        isTold(told, 8, number(ALL, 3, 3));
        comes(told, 7, number(ALL, 3, 3), 0, 7, NONE, NONE);
    }

    private static void quarrels() {
        CHECK.sentence("QUARREL: whether there are x, y with all x y and not all x y, or some x y and no x y, in any round.");
        for (int xy = 0; xy < 16; xy++) {
            int a = xy / 4;
            int b = xy % 4;
            KindSayings x = withMoods(Made.of(4, 1, text(ALL, a, b), text(NOT_ALL, a, b), text(SOME, a, b), text(NO, a, b),
                text(NOT_ALL, b, a), text(NO, b, a)), 0);
            String of = " of " + a + ", " + b;
            CHECK.due("all, not all" + of, x.shown(3, 2), 1);
            CHECK.due("some, no" + of, x.shown(12, 2), 1);
            CHECK.due("all, no" + of, x.shown(9, 2), 0);
            CHECK.due("all, some" + of, x.shown(5, 2), 0);
            CHECK.due("some, not all" + of, x.shown(6, 2), 0);
            CHECK.due("no, not all" + of, x.shown(10, 2), 0);
            CHECK.due("all, not all the other way" + of, x.shown(17, 2), a == b ? 1 : 0);
            CHECK.due("some, no the other way" + of, x.shown(36, 2), a == b ? 1 : 0);
            CHECK.due("none at all" + of, x.shown(0, 2), 0);
        }
        KindSayings x = Made.told("not all C:C", "some A:B", "all B:C", "no C:A");
        CHECK.due("with all C C of mood 7", x.shown(1, 2), 1);
        CHECK.due("some A C, no A C, both shown", x.shown(14, 2), 1);
        CHECK.due("two of the three", x.shown(6, 2) + x.shown(10, 2) + x.shown(12, 2), 0);
        x.moods(0);
        CHECK.due("without moods not", x.shown(1, 2) + x.shown(14, 2), 0);
    }

    private static void beyond() {
        CHECK.sentence("BEYOND: of a set how many FACTS FOLLOW from it (in WORLDS of N at most) that never come.");
        for (int k = 1; k <= 4; k++) {
            for (int n = 1; n <= 6; n += k == 4 ? 5 : 1) {
                KindSayings x = Made.of(k, n, "not least 0 A:A", "all A:A");
                CHECK.due("no world, k " + k + ": all but all x x", x.shown(1, 3), 4 * k * k - k);
                CHECK.due("the empty set, k " + k, x.shown(0, 3), 0);
                CHECK.due("the full set, k " + k, x.shown(EVERY, 3), 4 * k * k - k);
                x.moods(0);
                CHECK.due("no world, no mood, k " + k, x.shown(1, 3), 4 * k * k);
                CHECK.due("the empty set, no mood, k " + k, x.shown(0, 3), k);
                CHECK.due("of them one told, k " + k, x.shown(2, 3), k - 1);
                CHECK.due("the full set, one told, k " + k, x.shown(EVERY, 3), 4 * k * k - 1);
            }
        }
        ofEachFact();
        // Within one thing "some A A" leaves no B that is not A; within two it does.
        KindSayings x = Made.of(2, 1, "some A:A");
        CHECK.due("within one", x.shown(1, 3), 1);
        x.most(2);
        CHECK.due("within two", x.shown(1, 3), 0);
        // Six things of all kinds: each all and each some; of all four all x x come.
        KindSayings one = Made.of(4, 6, "least 6 A&B&C&D:A");
        CHECK.due("of one world of six", one.shown(1, 3), 32 - 4);
        one.most(5);
        CHECK.due("of none within five", one.shown(1, 3), 64 - 4);
        // The empty world alone: each all and each no.
        KindSayings empty = withMoods(Made.of(4, 6, "just 0 A|!A:A|!A"), 0);
        CHECK.due("of the empty world", empty.shown(1, 3), 32);
        // What comes though it does not follow is not beyond.
        KindSayings more = withMoods(Made.of(1, 4, "all A:A"), 511);
        CHECK.due("some A A comes", more.round(1, SOME, 0, 0), 1);
        CHECK.due("and is not beyond", more.shown(1, 3), 0);
    }

    /** What follows of each fact alone, told so that it is not plain: no fact comes, so all that follow are beyond. */
    private static void ofEachFact() {
        String[] notPlain = {"not least 1 A:!(B)", "least 1 A:B", "not least 1 A:B", "least 1 A:!(B)"};
        // It, each "all" of a kind and itself, and: nothing; the turned one, some A, some B; the turned one; some A.
        int[] ofTwo = {5, 8, 6, 6};
        // Of one kind, besides each "all" of a kind and itself: nothing; it; of no A all there is of A; no world, so all.
        int[] ofOne = {4, 5, 4 + 3 + 7, 64};
        for (int fact = 0; fact < 64; fact++) {
            int what = fact / 16;
            char a = (char) ('A' + fact / 4 % 4);
            char b = (char) ('A' + fact % 4);
            String text = notPlain[what].replace('B', 'Y').replace('A', a).replace('Y', b);
            KindSayings x = withMoods(Made.of(4, 2, text), 0);
            CHECK.due("beyond of " + text, x.shown(1, 3), a == b ? ofOne[what] : ofTwo[what]);
            KindSayings told = withMoods(Made.of(4, 2, text, text(what, a - 'A', b - 'A')), 0);
            CHECK.due("and of it told", told.shown(3, 3), (a == b ? ofOne[what] : ofTwo[what]) - 1);
        }
    }

    // ---- promises

    private static void moods() {
        CHECK.sentence("MOODS that may be used become bits (0 .. 511): what they were. BAD.");
        KindSayings x = new KindSayings();
        int before = 255;
        for (int bits : new int[] {0, 511, 1, 256, 510, 255, 128}) {
            CHECK.due("moods(" + bits + ")", x.moods(bits), before);
            before = bits;
        }
        for (int bits : new int[] {-1, 512, 1023, Integer.MIN_VALUE, Integer.MAX_VALUE}) {
            CHECK.due("moods(" + bits + ")", x.moods(bits), BAD);
            CHECK.due("they stay: mood 7 alone", x.shown(0, 0), 3);
        }
        x.kinds(2);
        CHECK.due("they stay with other kinds", x.moods(0), 128);
    }

    private static void round() {
        CHECK.sentence("ROUND of a FACT (0 .. 3, KINDS x, y); NONE. BAD.");
        for (int k = 1; k <= 4; k++) {
            KindSayings x = Made.of(k, 1, text(NOT_ALL, k - 1, k - 1), text(NO, k - 1, 0));
            CHECK.due("the first fact", x.round(0, 0, 0, 0), 0);
            CHECK.due("the last fact", x.round(1, 3, k - 1, k - 1), 0);
            CHECK.due("it is not told", x.round(0, 3, k - 1, k - 1), NONE);
            CHECK.due("the full set", x.round(EVERY, 2, 0, k - 1), k == 1 ? 0 : 1);
            for (int no : new int[] {-1, k, Integer.MIN_VALUE, Integer.MAX_VALUE}) {
                CHECK.due("x " + no + " of k " + k, x.round(1, 0, no, 0), BAD);
                CHECK.due("y " + no + " of k " + k, x.round(1, 0, 0, no), BAD);
            }
            for (int no : new int[] {-1, 4, Integer.MIN_VALUE, Integer.MAX_VALUE}) {
                CHECK.due("what " + no, x.round(1, no, 0, 0), BAD);
            }
            for (int set : NO_SETS) {
                CHECK.due("round(" + set + ", 0, 0, 0)", x.round(set, 0, 0, 0), BAD);
            }
        }
    }

    private static void byWhat() {
        CHECK.sentence("BY: the MOOD (part = 0; NONE: it is told, or never comes), the first FACT (1), the second (2; NONE: it takes "
            + "one, or none). BAD.");
        KindSayings x = Made.told("some A:B", "all B:C", "no A:C");
        isTold(x, 1, number(SOME, 0, 1));
        neverComes(x, 1, number(SOME, 0, 2));
        comes(x, 3, number(SOME, 0, 2), 1, 2, number(SOME, 0, 1), number(ALL, 1, 2));
        comes(x, 1, number(SOME, 1, 0), 1, 5, number(SOME, 0, 1), NONE);
        comes(x, 4, number(NO, 2, 0), 1, 4, number(NO, 0, 2), NONE);
        comes(x, 0, number(ALL, 0, 0), 0, 7, NONE, NONE);
        comes(x, EVERY, number(ALL, 1, 1), 0, 7, NONE, NONE);
        isTold(x, EVERY, number(ALL, 0, 0));
        x.moods(511);
        comes(x, 2, number(SOME, 1, 2), 1, 8, number(ALL, 1, 2), NONE);
        for (int part : new int[] {-1, 3, Integer.MIN_VALUE, Integer.MAX_VALUE}) {
            CHECK.due("part " + part, x.by(1, 1, 1, 0, part), BAD);
            CHECK.due("part " + part + " of what never comes", x.by(0, 2, 0, 0, part), BAD);
        }
        for (int part = 0; part < 3; part++) {
            for (int no : new int[] {-1, 3, Integer.MIN_VALUE, Integer.MAX_VALUE}) {
                CHECK.due("x " + no, x.by(1, 1, no, 0, part), BAD);
                CHECK.due("y " + no, x.by(1, 1, 0, no, part), BAD);
            }
            for (int no : new int[] {-1, 4, Integer.MIN_VALUE, Integer.MAX_VALUE}) {
                CHECK.due("what " + no, x.by(1, no, 0, 0, part), BAD);
            }
            for (int set : NO_SETS) {
                CHECK.due("by(" + set + ", 1, 1, 0, " + part + ")", x.by(set, 1, 1, 0, part), BAD);
            }
        }
    }

    private static void shown() {
        CHECK.sentence("How many FACTS there are once none comes (what = 0), rounds behind round 0 in which any came (1), whether there "
            + "is a QUARREL (2), BEYOND (3). BAD.");
        KindSayings x = withMoods(Made.told("all A:B", "all B:C", "all A:B"), 0);
        shows(x, 0, 0, 0, 0, 3);
        shows(x, 1, 1, 0, 0, 3);
        shows(x, 5, 1, 0, 0, 3);
        // "all A A" of the seven others.
        shows(x, EVERY, 3, 0, 0, 3);
        x.moods(1);
        shows(x, 3, 3, 1, 0, 3);
        x.moods(128);
        shows(x, 0, 3, 0, 0, 0);
        shows(x, EVERY, 5, 0, 0, 1);
        x.moods(129);
        shows(x, EVERY, 6, 1, 0, 0);
        Check.tell(x, 9, "not all A:C");
        shows(x, EVERY, 7, 1, 1, 36 - 7);
        for (int what : new int[] {-1, 4, Integer.MIN_VALUE, Integer.MAX_VALUE}) {
            CHECK.due("shown(0, " + what + ")", x.shown(0, what), BAD);
            CHECK.due("shown(1023, " + what + ")", x.shown(1023, what), BAD);
        }
        for (int set : NO_SETS) {
            for (int what = 0; what < 4; what++) {
                CHECK.due("shown(" + set + ", " + what + ")", x.shown(set, what), BAD);
            }
        }
    }

    private static void shows(KindSayings x, int set, int... due) {
        for (int what = 0; what < 4; what++) {
            CHECK.due("shown(" + set + ", " + what + ")", x.shown(set, what), due[what]);
        }
    }

    private static void count() {
        CHECK.sentence("0 k, 1 N, 2 THINGS of THE WORLD, 3 bytes of THE TEXT, 4 PLAIN SAYINGS as bits. BAD.");
        KindSayings x = Made.of(1, 1);
        counts(x, 1, 1, 0, 0, 1023);
        x.kinds(4);
        x.most(6);
        x.put(15, 6);
        Check.type(x, " ".repeat(80));
        counts(x, 4, 6, 6, 80, 1023);
        for (int i = 0; i < 10; i++) {
            Check.tell(x, i, "even A:A");
            CHECK.due("plain ones behind " + i, x.count(4), 1023 - ((2 << i) - 1));
        }
        counts(x, 4, 6, 6, 0, 0);
        Check.tell(x, 9, "no D:A");
        CHECK.due("the last alone", x.count(4), 512);
        for (int what : new int[] {-1, 5, Integer.MIN_VALUE, Integer.MAX_VALUE}) {
            CHECK.due("count(" + what + ")", x.count(what), BAD);
        }
    }

    private static void counts(KindSayings x, int... due) {
        for (int what = 0; what < 5; what++) {
            CHECK.due("count(" + what + ")", x.count(what), due[what]);
        }
    }

    public static void main(String[] args) {
        plain();
        eachFact();
        whichMoods();
        eachMood();
        rounds();
        by();
        quarrels();
        beyond();
        moods();
        round();
        byWhat();
        shown();
        count();
        CHECK.finish();
    }
}
