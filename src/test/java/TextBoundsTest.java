import java.util.Arrays;
import java.util.function.IntUnaryOperator;

/** The boundary cases of texts and the sayings read from them: each of the document's sentences by itself. */
public final class TextBoundsTest {
    private static final int BAD = KindSayings.BAD, FULL = KindSayings.FULL, NONE = KindSayings.NONE;
    private static final String[] WORDS = {"all", "some", "no", "most", "least", "just", "more", "even"};
    private static final Check CHECK = new Check();

    /** Reads a text; where a ^ stands in it, the fault is behind, where none stands, there is none. */
    private static void reads(String marked) {
        reads(3, marked);
    }

    private static void reads(int k, String marked) {
        int fault = marked.indexOf('^');
        KindSayings x = Made.of(k, 4);
        Check.type(x, marked.replace("^", ""));
        CHECK.due("read of '" + marked + "', k " + k, x.read(9), fault < 0 ? 1 : -10 - fault);
    }

    /** What is read of a text with each byte there is at its place b; due tells what of each: 1, or the fault's place. */
    private static void sweep(String text, IntUnaryOperator due) {
        for (int code = 0; code < 256; code++) {
            int want = due.applyAsInt(code);
            KindSayings x = new KindSayings();
            CHECK.due("byte " + code + " for b in '" + text + "'", Check.tell(x, 0, text.replace('b', (char) code)),
                want == 1 ? 1 : -10 - want);
        }
    }

    private static boolean isOne(int code, String of) {
        return of.indexOf(code) >= 0;
    }

    private static boolean isLetter(int code) {
        return isOne(code, "abcdefghijklmnopqrstuvwxyz");
    }

    // ---- terms: texts, tokens

    private static void tenTextsOfEightyBytes() {
        CHECK.sentence("SAYINGS 0 .. 9 are texts (80 bytes at most), read byte by byte, blanks (32), any number, ahead of, "
            + "between, behind TOKENS");
        KindSayings x = new KindSayings();
        String eighty = "least 6" + " ".repeat(67) + "A|B:!C";
        CHECK.due("80 bytes", Check.type(x, eighty), 80);
        CHECK.due("an 81st", x.type(' ', 1), FULL);
        CHECK.due("they are read", x.read(9), 1);
        CHECK.due("to the last", x.about(9, 2), 0x0f);
        CHECK.due("from the first", x.about(9, 3), 6);
        CHECK.due("80 again", Check.type(x, eighty), 80);
        CHECK.due("for the first", x.read(0), 1);
        CHECK.due("no tenth", x.read(10), BAD);
        CHECK.due("none ahead of the first", x.read(-1), BAD);
        String[] tokens = {"not", "least", "2", "!", "(", "A", "&", "B", ")", "|", "C", ":", "A"};
        for (int gap = 0; gap <= tokens.length; gap++) {
            for (int many : new int[] {0, 1, 2, 59}) {
                StringBuilder text = new StringBuilder();
                for (int at = 0; at <= tokens.length; at++) {
                    // Between the two words a blank is needed.
                    int least = at == 1 ? 1 : 0;
                    text.append(" ".repeat(at == gap ? Math.max(many, least) : least));
                    text.append(at < tokens.length ? tokens[at] : "");
                }
                reads(text.toString());
            }
        }
    }

    /** Each byte at each kind of place: what is a blank, what belongs to the token ahead, what can stand there. */
    private static void eachByte() {
        CHECK.sentence("TOKENS are words of letters a .. z, NUMBERS (figures that stand together are one TOKEN; with a 0 ahead "
            + "of others: none), and A .. D : | & ! ( ).");
        sweep("b all A:A", b -> b == ' ' ? 1 : 0);
        sweep("ball A:A", b -> b == ' ' ? 1 : 0);
        sweep("allb A:A", b -> b == ' ' || b == '!' ? 1 : isLetter(b) ? 0 : isOne(b, "ABC") ? 5 : b == '(' ? 6 : 3);
        sweep("all b A:A", b -> b == ' ' || b == '!' ? 1 : isOne(b, "ABC") ? 6 : b == '(' ? 7 : 4);
        sweep("all A b :A", b -> b == ' ' ? 1 : isOne(b, ":|&") ? 8 : 6);
        sweep("all A:b A", b -> b == ' ' || b == '!' ? 1 : isOne(b, "ABC") ? 8 : b == '(' ? 9 : 6);
        sweep("all A:b", b -> isOne(b, "ABC") ? 1 : isOne(b, " !(") ? 7 : 6);
        sweep("all A:Ab", b -> b == ' ' ? 1 : isOne(b, "|&") ? 8 : 7);
        sweep("all A:A b", b -> b == ' ' ? 1 : isOne(b, "|&") ? 9 : 8);
        sweep("all A:(Ab", b -> b == ')' ? 1 : isOne(b, " |&") ? 9 : 8);
        sweep("leastb A:A", b -> isOne(b, "0123456") ? 1 : isLetter(b) ? 0 : b == ' ' ? 7 : 5);
        sweep("least b A:A", b -> isOne(b, "0123456") ? 1 : b == ' ' ? 8 : 6);
        sweep("least 1b A:A", b -> b == ' ' || b == '!' ? 1 : isOne(b, "0123456789") ? 6 : isOne(b, "ABC") ? 9 : b == '(' ? 10 : 7);
        sweep("least 0b A:A", b -> b == ' ' || b == '!' ? 1 : isOne(b, "0123456789") ? 6 : isOne(b, "ABC") ? 9 : b == '(' ? 10 : 7);
        sweep("least 1 b A:A", b -> b == ' ' || b == '!' ? 1 : isOne(b, "ABC") ? 10 : b == '(' ? 11 : 8);
        sweep("notb all A:A", b -> b == ' ' ? 1 : isLetter(b) ? 0 : 3);
    }

    private static void whereBlanksAreNeeded() {
        CHECK.sentence("(needed only between two rows of letters, two NUMBERS):");
        reads("not all A:B");
        reads("^notall A:B");
        reads("not ^allall A:B");
        reads("not least2!(A&B|C):!(!A)");
        reads("just6A:B");
        // Between two numbers a blank parts them, so the second is the fault; without it they are one.
        reads("least 1 ^2 A:B");
        reads("least ^12 A:B");
        reads("least 0 ^2 A:B");
        reads("least ^02 A:B");
    }

    private static void atMostOneNot() {
        CHECK.sentence("perhaps \"not\", then");
        CHECK.sentence("\"not\" turns it.");
        for (String word : WORDS) {
            String rest = word + (word.equals("least") || word.equals("just") ? " 1 A:B" : " A:B");
            KindSayings x = Made.told(rest, "not " + rest);
            CHECK.due("turned, " + rest, x.about(0, 4), 0);
            CHECK.due("turned, not " + rest, x.about(1, 4), 1);
            CHECK.due("in no world both, " + rest, x.can(3), 0);
            CHECK.due("in each world one, " + rest, x.can(1) + x.can(2), 495);
            reads("not ^not " + rest);
            reads(word + (rest.contains("1") ? " 1" : "") + " ^not A:B");
        }
        reads("not^");
        reads("not ^A:B");
        reads("not ^1 A:B");
    }

    // ---- terms: the words

    private static void wordsToTheLetter() {
        CHECK.sentence("a word that is none of these");
        for (String word : new String[] {"all", "some", "no", "most", "more", "even"}) {
            reads(word + " A:B");
            reads("not " + word + " A:B");
            // One letter more on either side, twice the word, the first letter large.
            reads("^" + word + "s A:B");
            reads("not ^x" + word + " A:B");
            reads("^" + word + word + " A:B");
            reads("^" + word.substring(0, 1).toUpperCase() + word.substring(1) + " A:B");
        }
        for (String word : new String[] {"least", "just"}) {
            reads(word + " 1 A:B");
            reads("not " + word + " 1 A:B");
            reads("^" + word + "s 1 A:B");
            reads("not ^x" + word + " 1 A:B");
            reads("^" + word + word + " 1 A:B");
        }
        // A letter less; "no" is one, and the fault stands behind it.
        for (String less : new String[] {"al", "som", "n", "mos", "mor", "eve", "a", "e"}) {
            reads("^" + less + " A:B");
            reads("not ^" + less + " A:B");
        }
        reads("^leas 1 A:B");
        reads("^jus 1 A:B");
        reads("no^");
        reads("^non A:B");
        reads("^nots all A:B");
        reads("^" + "z".repeat(80));
        // Words that end like one, of more letters than a long has bytes.
        reads("^" + "x".repeat(8) + "all A:B");
        reads("^" + "all".repeat(24) + " A:B");
        reads("^" + "a".repeat(61) + "least 1 A:B");
    }

    /** What a word says at its edges; a world is of so many of neither, of A alone, of B alone, of both. */
    private static void word(String sentence, String saying, int[][] holds, int[][] fails) {
        CHECK.sentence(sentence);
        KindSayings x = Made.of(2, 6, saying, "not " + saying);
        for (int[] world : holds) {
            inWorld(x, saying, world, 1);
        }
        for (int[] world : fails) {
            inWorld(x, saying, world, 0);
        }
    }

    private static void inWorld(KindSayings x, String saying, int[] world, int due) {
        Made.world(x, world);
        String name = saying + " in " + Arrays.toString(world);
        CHECK.due(name, x.holds(0), due);
        CHECK.due("not " + name, x.holds(1), 1 - due);
    }

    private static void words() {
        word("\"all\" X : Y (each X is Y)", "all A:B",
            new int[][] {{}, {6}, {0, 0, 6}, {0, 0, 0, 1}, {0, 0, 0, 6}, {2, 0, 3, 1}},
            new int[][] {{0, 1}, {0, 6}, {0, 1, 0, 5}, {0, 1, 5}, {4, 1, 0, 1}});
        word("\"some\" X : Y (one at least is both)", "some A:B",
            new int[][] {{0, 0, 0, 1}, {0, 0, 0, 6}, {2, 2, 1, 1}, {5, 0, 0, 1}},
            new int[][] {{}, {6}, {0, 6}, {0, 0, 6}, {0, 3, 3}, {2, 2, 2}});
        word("\"no\" X : Y (none is both)", "no A:B",
            new int[][] {{}, {6}, {0, 6}, {0, 0, 6}, {0, 3, 3}, {2, 2, 2}},
            new int[][] {{0, 0, 0, 1}, {0, 0, 0, 6}, {2, 2, 1, 1}, {5, 0, 0, 1}});
        word("\"most\" X : Y (more than half of X are Y; of no X not)", "most A:B",
            new int[][] {{0, 0, 0, 1}, {0, 0, 0, 6}, {0, 1, 0, 2}, {0, 2, 0, 3}, {0, 2, 0, 4}, {3, 0, 2, 1}, {0, 1, 3, 2}},
            new int[][] {{}, {6}, {0, 0, 6}, {0, 1}, {0, 6}, {0, 1, 0, 1}, {0, 2, 0, 2}, {0, 3, 0, 3}, {0, 3, 0, 2}, {0, 1, 4, 1}});
        word("\"more\" X : Y (there are more X than Y)", "more A:B",
            new int[][] {{0, 1}, {0, 6}, {0, 1, 0, 5}, {0, 2, 1, 3}, {0, 3, 2}, {5, 1}},
            new int[][] {{}, {6}, {0, 0, 0, 6}, {0, 3, 3}, {0, 1, 1, 4}, {0, 0, 1}, {0, 0, 1, 5}, {0, 2, 3}, {0, 0, 6}});
        word("\"even\" X : Y (as many); n 0 .. 6.", "even A:B",
            new int[][] {{}, {6}, {0, 0, 0, 6}, {0, 3, 3}, {0, 1, 1, 4}, {4, 1, 1}},
            new int[][] {{0, 1}, {0, 0, 1}, {0, 1, 0, 5}, {0, 0, 1, 5}, {0, 3, 2}, {0, 2, 3}, {0, 6}, {0, 0, 6}});
        for (int n = 0; n <= 6; n++) {
            atNumber(n);
        }
    }

    /** "least" and "just" where one fewer, as many and one more than n are both. */
    private static void atNumber(int n) {
        KindSayings x = Made.of(2, 6, "least " + n + " A:B", "not least " + n + " A:B", "just " + n + " A:B",
            "not just " + n + " A:B");
        for (int both = 0; both <= 6; both++) {
            for (int alone = 0; alone + both <= 6; alone += Math.max(1, 6 - both)) {
                Made.world(x, 0, alone, 0, both);
                String name = n + " A:B where " + both + " are both, " + alone + " A alone: ";
                CHECK.sentence("\"least\" n X : Y (n at least are both)");
                CHECK.due("least " + name, x.holds(0), both >= n ? 1 : 0);
                CHECK.due("not least " + name, x.holds(1), both >= n ? 0 : 1);
                CHECK.sentence("\"just\" n X : Y (n are both)");
                CHECK.due("just " + name, x.holds(2), both == n ? 1 : 0);
                CHECK.due("not just " + name, x.holds(3), both == n ? 0 : 1);
            }
        }
    }

    private static void numbers() {
        CHECK.sentence("\"even\" X : Y (as many); n 0 .. 6.");
        for (String word : new String[] {"least ", "just ", "not least ", "not just "}) {
            for (int n = 0; n <= 6; n++) {
                KindSayings x = Made.told(word + n + " A:B");
                CHECK.due("n of " + word + n, x.about(0, 3), n);
            }
            for (String no : new String[] {"7", "8", "9", "10", "16", "60", "66", "100", "255", "256", "262", "1000", "65536",
                "2147483647", "2147483648", "4294967295", "4294967296", "4294967298", "9223372036854775807",
                "9223372036854775808", "18446744073709551616", "18446744073709551622", "1" + "0".repeat(60), "9".repeat(60)}) {
                reads(word + "^" + no + " A:B");
            }
            reads(word + "^-1 A:B");
            reads(word + "^A:B");
            reads(word + "^");
            reads(word + "1 ^1 A:B");
        }
        for (String word : new String[] {"all", "some", "no", "most", "more", "even"}) {
            reads(word + " ^0 A:B");
            KindSayings x = Made.told("least 6 A:B");
            Check.tell(x, 0, word + " A:B");
            CHECK.due("n of " + word, x.about(0, 3), 0);
        }
    }

    // ---- terms: X and Y

    private static void meetsAndParts() {
        CHECK.sentence("X, Y: MEETS with | between; a MEET: PARTS with & between; a PART: a KIND A .. D (one that there is), ! PART "
            + "(what is not), ( X ).");
        for (int k = 1; k <= 4; k++) {
            for (int kind = 0; kind < 26; kind++) {
                String name = String.valueOf((char) ('A' + kind));
                reads(k, "no " + (kind < k ? "" : "^") + name + ":A");
                reads(k, "no A:" + (kind < k ? "" : "^") + name);
                reads(k, "no !(A&" + (kind < k ? "" : "^") + name + "):A");
            }
        }
        for (String joint : new String[] {"|", "&"}) {
            reads("no A" + joint + "B:A" + joint + "B");
            reads("no ^" + joint + "A:B");
            reads("no A" + joint + "^" + joint + "B:A");
            reads("no A" + joint + "^|B:A");
            reads("no A" + joint + "^:B");
            reads("no (A" + joint + "^):B");
            reads("no A:B" + joint + "^");
            reads("no !^" + joint + "A:B");
        }
        reads("no ^:B");
        reads("no (^):B");
        reads("no A ^B:A");
        reads("no A^(B):A");
        reads("no A^!B:A");
        reads("no A^):B");
        reads("no (A^:B");
        reads("no A:(B^");
        reads("no (A^:B)");
        // & binds closer than |, ! closer than &.
        CHECK.due("A|B&C", Made.told("no A|B&C:A&B|C").about(0, 1), 0xea);
        CHECK.due("A&B|C", Made.told("no A|B&C:A&B|C").about(0, 2), 0xf8);
        CHECK.due("!A&B", Made.told("no !A&B:!A|B").about(0, 1), 0x44);
        CHECK.due("!A|B", Made.told("no !A&B:!A|B").about(0, 2), 0xdd);
    }

    private static void kindsAndOpenersInAll() {
        CHECK.sentence("24 KINDS, ! and ( at most in a SAYING, 8 ( and ! open at a time.");
        // In X, in Y, in both together.
        reads("no " + kinds(23) + ":A");
        reads("no " + kinds(24) + ":^A");
        reads("no A:" + kinds(23));
        reads("no A:" + kinds(23) + "|^A");
        reads("no " + kinds(12) + ":" + kinds(12));
        reads("no " + kinds(12) + ":" + kinds(12) + "|^B");
        reads("no " + kinds(12) + ":" + kinds(12) + "|^!B");
        reads("no " + kinds(12) + ":" + kinds(12) + "|^(B)");
        // Each ! and each ( counts.
        reads("no " + "!".repeat(8) + "A|" + "!".repeat(8) + "A|!!!!A:B");
        reads("no " + "!".repeat(8) + "A|" + "!".repeat(8) + "A|!!!!!A:^B");
        reads("no A:" + "!".repeat(8) + "A|" + "!".repeat(8) + "A|!!!!A");
        reads("no A:" + "!".repeat(8) + "A|" + "!".repeat(8) + "A|!!!!!^A");
        reads("no A:" + "(".repeat(8) + "A" + ")".repeat(8) + "|" + "(".repeat(8) + "A" + ")".repeat(8) + "|((((A))))");
        reads("no A:" + "(".repeat(8) + "A" + ")".repeat(8) + "|" + "(".repeat(8) + "A" + ")".repeat(8) + "|(((((^A)))))");
        // "not", the words, numbers, ) : | & don't count.
        reads("not least 6 (A)&(B)|(C)&(A)|(B)&(C)|(A)&(B)|(C)&(A)|(B):A&A");
        reads("not least 6 (A)&(B)|(C)&(A)|(B)&(C)|(A)&(B)|(C)&(A)|(B):A&A|^A");
        // Too early behind 24 is still too early; what can't stand behind them is its own fault.
        reads("no " + kinds(24) + "^");
        reads("no A:" + kinds(23) + "|^");
        reads("no A:" + kinds(23) + "^A");
        reads("no A:" + kinds(23) + "|^)");
        // They are counted anew for each text, one that was not read too.
        KindSayings x = new KindSayings();
        for (int turn = 0; turn < 3; turn++) {
            CHECK.due("24", Check.tell(x, 0, "no " + kinds(23) + ":A"), 1);
            CHECK.due("25", Check.tell(x, 1, "no " + kinds(24) + ":A"), -10 - 51);
        }
    }

    private static String kinds(int many) {
        return "A" + "|A".repeat(many - 1);
    }

    private static void openAtATime() {
        CHECK.sentence("24 KINDS, ! and ( at most in a SAYING, 8 ( and ! open at a time.");
        for (int openers = 0; openers < 256; openers++) {
            // Each row of eight ( and !, as the bits tell: the ninth of either is one too many, a kind is not.
            StringBuilder row = new StringBuilder();
            int brackets = 0;
            for (int i = 0; i < 8; i++) {
                boolean bracket = (openers >> i & 1) == 1;
                row.append(bracket ? '(' : '!');
                brackets += bracket ? 1 : 0;
            }
            reads("no " + row + "A" + ")".repeat(brackets) + ":B");
            reads("no B:" + row + "A" + ")".repeat(brackets));
            reads("no " + row + "^(A)" + ")".repeat(brackets) + ":B");
            reads("no B:" + row + "^!A" + ")".repeat(brackets));
        }
        // What is closed is open no more: a bracket behind its ), a ! behind its part.
        reads("no ((((((((A))))))))|((((((((B)))))))):C");
        reads("no !!!!!!!!A&!!!!!!!!B:C");
        reads("no (((((((!A&!B|!C))))))):C");
        reads("no (((((((!A&!^!B");
        reads("no (((((((!^(A))))))))):C");
        reads("no (((((((!A)|(B))))))):C");
        reads("no !(((((((A)))))))&((((((((B)))))))):C");
        reads("no !(((((((A)))))))&((((((((^(B))))))))):C");
        reads("no !(A)&!(((((((B))))))):!(A)");
        reads("no !!(A|!!!!!B):C");
        reads("no !!(A|!!!!!^!B):C");
        reads("no A:!!!!!!!!B&!!!!!!!!^(A)");
        reads("no !!!!!!!!A:!!!!!!!!B");
    }

    // ---- terms: faults

    private static void whereAFaultIs() {
        CHECK.sentence("FAULT: the place of the first byte of the first TOKEN that can't stand there (a KIND that there is not, a "
            + "NUMBER above 6, a 25th, a ninth open one, too);");
        reads("^A:B");
        reads("^: all A");
        reads("  ^A:B");
        reads("all ^some A:B");
        reads("all A ^some:B");
        reads("all A^(B):C");
        reads("all A:B^:C");
        reads("all ^D:B");
        reads("all A:  ^D");
        reads(1, "all A|^B:A");
        reads(2, "all A|B|^C:A");
        reads("least  ^7A:B");
        reads("least  ^666666 A:B");
        reads("no " + kinds(24) + " : ^A");
        reads("no " + "!".repeat(8) + "  ^!A:B");
        // The first of several.
        reads("^foo bar");
        reads("all ^D:E");
        reads("all ^007:D");
        reads("least ^7 D:foo .");
        reads("all A ^B $");
        reads("all A:B ^C foo 07 $");
        reads("^D all foo");
    }

    private static void faultsOfTokens() {
        CHECK.sentence("of a byte that begins none, a word that is none of these, figures with a 0 ahead of others, that TOKEN's;");
        for (char sign : new char[] {0, 1, '\t', '\n', 31, '"', '#', '\'', '*', '-', '.', '/', ';', '=', '@', 'E', 'Z', '[', '_', '`',
            '{', '~', 127, 128, 160, 193, 225, 255}) {
            reads("^" + sign);
            reads("^" + sign + "all A:B");
            reads("all^" + sign + "A:B");
            reads("least ^" + sign + "1 A:B");
            reads("all A^" + sign + ":B");
            reads("all A:^" + sign + "B");
            reads("all A:B^" + sign);
        }
        reads("^abc");
        reads("all A:B   ^abc");
        reads("not   ^allx A:B");
        for (String none : new String[] {"00", "01", "06", "000", "0123456789", "0" + "1".repeat(60), "0".repeat(60)}) {
            reads("least ^" + none + " A:B");
            reads("just   ^" + none + "A:B");
            reads("all ^" + none + " A:B");
            reads("all A:B ^" + none);
        }
        reads("least 0 A:B");
    }

    private static void tooEarly() {
        CHECK.sentence("the text's length, if it ends too early;");
        String[] cut = {"", "not ", "least ", "3 ", "!", "(", "A", "&", "B ", ")", "|", "C ", ":", "(", "!", "A"};
        StringBuilder text = new StringBuilder();
        for (String token : cut) {
            text.append(token);
            reads(text + "^");
            reads(text + "   ^");
            reads(text + " ".repeat(80 - text.length()) + "^");
        }
        reads(text + ")");
        reads("all A^");
        reads("all A ^");
        reads("no^");
        reads(" ^");
        // Cut within a word it may be none, and then it is the word's place.
        reads("^n");
        reads("not ^leas");
        reads("not no^");
        reads("all (A&(B|!C^");
        KindSayings x = new KindSayings();
        CHECK.due("the least fault", x.read(0), -10);
        Check.type(x, " ".repeat(80));
        CHECK.due("the greatest fault", x.read(0), -90);
    }

    private static void whatStandsBehind() {
        CHECK.sentence("of what stands behind a whole one, its.");
        for (String more : new String[] {"A", "D", "E", "all", "some", "foo", "1", "7", "01", "!", "(", ")", ":", "$", "\t",
            "all A:B"}) {
            reads("all A:B ^" + more);
            reads("all A:B  ^" + more + " foo");
            reads("not least 2 (A):(B) ^" + more);
        }
        reads("all A:B" + " ".repeat(72) + "^C");
        reads("all A:B" + " ".repeat(73));
        reads("all A:B&C");
        reads("all A:B|C");
    }

    // ---- terms: what a saying is

    private static void atFirst() {
        CHECK.sentence("(At first each SAYING is \"all A : A\"; so are all again once k is told.)");
        KindSayings x = new KindSayings();
        KindSayings y = Made.told("no B:C", "no B:C", "no B:C", "no B:C", "no B:C", "no B:C", "no B:C", "no B:C", "no B:C",
            "not least 6 !A:B");
        CHECK.due("k told that there was", y.kinds(3), 3);
        for (int i = 0; i < 10; i++) {
            for (int what = 0; what < 6; what++) {
                int due = what == 1 || what == 2 ? 0xaa : 0;
                CHECK.due("about(" + i + ", " + what + ") at first", x.about(i, what), due);
                CHECK.due("about(" + i + ", " + what + ") again", y.about(i, what), due);
            }
        }
        Check.tell(y, 0, "no B:C");
        Check.tell(y, 9, "no B:C");
        CHECK.due("k not told: refused", y.kinds(5), BAD);
        CHECK.due("the first stays", y.about(0, 0), 2);
        CHECK.due("the last stays", y.about(9, 0), 2);
    }

    private static void setsOfSorts() {
        CHECK.sentence("X of a SAYING is a set of SORTS, so is Y.");
        for (int k = 1; k <= 4; k++) {
            int every = k == 1 ? 3 : k == 2 ? 15 : k == 3 ? 255 : 65535;
            KindSayings x = Made.of(k, 4, "no A&!A:A|!A", "no A|!A:A&!A", "no !(A|!A):!(A&!A)");
            CHECK.due("no sort as X, k " + k, x.about(0, 1), 0);
            CHECK.due("each sort as Y, k " + k, x.about(0, 2), every);
            CHECK.due("each sort as X, k " + k, x.about(1, 1), every);
            CHECK.due("no sort as Y, k " + k, x.about(1, 2), 0);
            CHECK.due("what is not each, k " + k, x.about(2, 1), 0);
            CHECK.due("what is not none, k " + k, x.about(2, 2), every);
        }
        KindSayings x = Made.of(4, 4, "no !A&!B&!C&!D:A&B&C&D", "no !(A|B|C|D)|A&B&C&D:A|B|C|D");
        CHECK.due("the first sort alone", x.about(0, 1), 1);
        CHECK.due("the last sort alone", x.about(0, 2), 1 << 15);
        CHECK.due("the first and the last", x.about(1, 1), 1 + (1 << 15));
        CHECK.due("all but the first", x.about(1, 2), 65534);
    }

    // ---- promises

    private static void type() {
        CHECK.sentence("The lowest n (1 .. 8) bytes of v, the highest of them first, come to THE TEXT: how many it has. BAD; FULL.");
        String row = "all A:BC";
        for (int n = 1; n <= 8; n++) {
            // Of v the lowest n bytes alone: what is above them would be a fault.
            KindSayings x = new KindSayings();
            CHECK.due("the first bytes", Check.type(x, row.substring(0, 7 - Math.min(n, 7))), 7 - Math.min(n, 7));
            long v = Check.packed(row.substring(7 - Math.min(n, 7), 7)) | (n < 7 ? -1L << 8 * n : 0);
            if (n == 8) {
                v = v << 8 | ' ';
            } else if (n == 7) {
                v |= 0xffL << 56;
            }
            CHECK.due("type of " + n + " bytes of " + v, x.type(v, n), Math.max(n, 7));
            CHECK.due("they are the text", x.read(0), 1);
            CHECK.due("in their order", x.about(0, 5), 1);
        }
        longsAtTheEnds();
        fullToTheByte();
        for (int n : new int[] {0, 9, -1, 16, 64, 256 + 1, Integer.MIN_VALUE, Integer.MIN_VALUE + 1, Integer.MAX_VALUE}) {
            KindSayings x = new KindSayings();
            CHECK.due("type(0, " + n + ") on an empty text", x.type(0, n), BAD);
            Check.type(x, " ".repeat(80));
            CHECK.due("type(0, " + n + ") on a full text", x.type(0, n), BAD);
            CHECK.due("the text stays", x.count(3), 80);
        }
    }

    /** The least and the greatest long, 0 and -1: their bytes are no tokens, and each comes. */
    private static void longsAtTheEnds() {
        for (long v : new long[] {Long.MIN_VALUE, Long.MAX_VALUE, 0, -1L, Long.MIN_VALUE + 1, Integer.MIN_VALUE, 1L << 32}) {
            for (int n = 1; n <= 8; n++) {
                KindSayings x = new KindSayings();
                Check.type(x, "all A:B");
                CHECK.due("type(" + v + ", " + n + ")", x.type(v, n), 7 + n);
                CHECK.due("its first byte is the fault", x.read(0), -17);
                CHECK.due("clear", x.clear(), 7 + n);
            }
        }
        // Blanks but for the highest byte, 0x80: the lowest seven are blanks alone.
        KindSayings x = new KindSayings();
        Check.type(x, "all A:B");
        CHECK.due("seven of eight", x.type(0x8020202020202020L, 7), 14);
        CHECK.due("are blanks", x.read(0), 1);
        Check.type(x, "all A:B");
        CHECK.due("the lowest of eight", x.type(Long.MAX_VALUE & ~0xffL | ' ', 1), 8);
        CHECK.due("is a blank", x.read(0), 1);
        Check.type(x, "all A:B");
        x.type(0x2020202020202080L, 8);
        CHECK.due("the lowest comes last", x.read(0), -10 - 14);
        Check.type(x, "all A:B");
        x.clear();
        x.type(0x8020202020202020L, 8);
        CHECK.due("the highest comes first", x.read(0), -10);
    }

    private static void fullToTheByte() {
        for (int n = 1; n <= 8; n++) {
            for (int over = 0; over <= n; over++) {
                KindSayings x = new KindSayings();
                Check.type(x, " ".repeat(80 - n + over));
                CHECK.due(n + " bytes, " + over + " over", x.type(0x4142434142434142L, n), over == 0 ? 80 : FULL);
                CHECK.due("bytes then", x.count(3), over == 0 ? 80 : 80 - n + over);
                CHECK.due("their fault", x.read(0), over == 0 ? -10 - (80 - n) : -10 - (80 - n + over));
            }
        }
    }

    private static void clear() {
        CHECK.sentence("THE TEXT is empty: how many bytes it had.");
        KindSayings x = new KindSayings();
        CHECK.due("of an empty text", x.clear(), 0);
        x.type('A', 1);
        CHECK.due("of one byte", x.clear(), 1);
        CHECK.due("and again", x.clear(), 0);
        Check.type(x, "all A:B" + " ".repeat(73));
        CHECK.due("of a full text", x.clear(), 80);
        CHECK.due("none are left", x.count(3), 0);
        CHECK.due("nothing to read", x.read(0), -10);
        CHECK.due("there is room for 80", Check.type(x, " ".repeat(80)), 80);
        CHECK.due("of 80 blanks", x.clear(), 80);
    }

    private static void read() {
        CHECK.sentence("THE TEXT becomes SAYING i, and is empty then: 1. BAD; -10 less FAULT: nothing changes.");
        for (int i = 0; i < 10; i++) {
            KindSayings x = new KindSayings();
            Check.type(x, "not least 2 B:C ");
            CHECK.due("read(" + i + ")", x.read(i), 1);
            CHECK.due("bytes left", x.count(3), 0);
            CHECK.due("the next finds it empty", x.read(i), -10);
            for (int other = 0; other < 10; other++) {
                CHECK.due("n of " + other + " behind read(" + i + ")", x.about(other, 3), other == i ? 2 : 0);
            }
            CHECK.due("which are plain", x.count(4), 1023 - (1 << i));
        }
        KindSayings x = Made.told("just 4 B:C");
        Check.type(x, "not most A|B:");
        for (int no : new int[] {-1, 10, 16, Integer.MIN_VALUE, Integer.MAX_VALUE}) {
            CHECK.due("read(" + no + ")", x.read(no), BAD);
        }
        for (int turn = 0; turn < 3; turn++) {
            CHECK.due("read(0) of a fault", x.read(0), -23);
            CHECK.due("the text stays", x.count(3), 13);
            int[] due = {5, 0xcc, 0xf0, 4, 0, NONE};
            for (int what = 0; what < 6; what++) {
                CHECK.due("the saying stays, " + what, x.about(0, what), due[what]);
            }
        }
        x.type('C', 1);
        CHECK.due("what stayed is read with what comes", x.read(0), 1);
        CHECK.due("X of it", x.about(0, 1), 0xee);
        faultLeavesWhatCanBe();
    }

    private static void faultLeavesWhatCanBe() {
        KindSayings x = Made.told("some A:A");
        int before = x.can(1);
        Check.type(x, "no A:A$");
        CHECK.due("a fault at the very end", x.read(0), -16);
        CHECK.due("can(1)", x.can(1), before);
        CHECK.due("count(4)", x.count(4), 1023);
        CHECK.due("its fact", x.about(0, 5), 16);
        CHECK.due("its round", x.round(1, 1, 0, 0), 0);
        CHECK.due("the other's", x.round(1, 2, 0, 0), NONE);
    }

    private static void about() {
        CHECK.sentence("Of a SAYING: 0 its word (0 all, 1 some, 2 no, 3 most, 4 least, 5 just, 6 more, 7 even), 1 X, 2 Y as sets of "
            + "SORTS, 3 n (0), 4 whether it is turned, 5 the FACT that it tells (NONE: it is not PLAIN). BAD.");
        for (int word = 0; word < 8; word++) {
            String n = word == 4 || word == 5 ? " 6 " : " ";
            KindSayings x = Made.of(4, 4, WORDS[word] + n + "A:D", "not " + WORDS[word] + n + "D:A");
            int[] one = {word, 0xaaaa, 0xff00, n.length() == 3 ? 6 : 0, 0, word < 3 ? 16 * word + 3 : NONE};
            int[] other = {word, 0xff00, 0xaaaa, n.length() == 3 ? 6 : 0, 1, word < 3 ? 16 * (3 - word) + 12 : NONE};
            for (int what = 0; what < 6; what++) {
                CHECK.due("about(0, " + what + ") of " + WORDS[word], x.about(0, what), one[what]);
                CHECK.due("about(1, " + what + ") of not " + WORDS[word], x.about(1, what), other[what]);
            }
        }
        KindSayings x = Made.of(4, 4, "all A:A", "not all D:D");
        CHECK.due("the least fact", x.about(0, 5), 0);
        CHECK.due("the greatest fact", x.about(1, 5), 63);
        CHECK.due("about(9, 5), the last", x.about(9, 5), 0);
        for (int no : new int[] {-1, 10, Integer.MIN_VALUE, Integer.MAX_VALUE}) {
            CHECK.due("about(" + no + ", 0)", x.about(no, 0), BAD);
        }
        for (int no : new int[] {-1, 6, Integer.MIN_VALUE, Integer.MAX_VALUE}) {
            CHECK.due("about(0, " + no + ")", x.about(0, no), BAD);
        }
    }

    public static void main(String[] args) {
        tenTextsOfEightyBytes();
        eachByte();
        whereBlanksAreNeeded();
        atMostOneNot();
        wordsToTheLetter();
        words();
        numbers();
        meetsAndParts();
        kindsAndOpenersInAll();
        openAtATime();
        whereAFaultIs();
        faultsOfTokens();
        tooEarly();
        whatStandsBehind();
        atFirst();
        setsOfSorts();
        type();
        clear();
        read();
        about();
        CHECK.finish();
    }
}
