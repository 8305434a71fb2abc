import java.util.LinkedHashSet;
import java.util.Set;
import java.util.function.Supplier;

/** Of each number that a call takes: the last that is taken and the first that is refused, on either side. */
public final class RefusalsTest {
    private static final int BAD = KindSayings.BAD, STATE = KindSayings.STATE, FULL = KindSayings.FULL;
    private static final Check CHECK = new Check();

    /** A call with one of its numbers left open, the others being right. */
    private interface Call {
        int with(KindSayings x, int number);
    }

    private static void number(String name, int first, int last, Supplier<KindSayings> made, Call call) {
        String before = Made.trace(made.get());
        for (int no : outside(first, last)) {
            KindSayings x = made.get();
            CHECK.due(name + " with " + no, call.with(x, no), BAD);
            CHECK.due("what is left by " + name + " with " + no, Made.trace(x), before);
        }
        for (int yes : new int[] {first, last}) {
            int answer = call.with(made.get(), yes);
            CHECK.due(name + " with " + yes + " is taken", answer == BAD || answer == FULL ? answer : 0, 0);
        }
    }

    /** Those next to what is taken, the least and the greatest there are, and such as are right in their lowest bits. */
    private static Set<Integer> outside(int first, int last) {
        Set<Integer> numbers = new LinkedHashSet<>();
        for (int near : new int[] {first, last}) {
            for (int bit = 4; bit < 32; bit++) {
                numbers.add(near + (1 << bit));
                numbers.add(near - (1 << bit));
            }
        }
        for (int no : new int[] {first - 1, first - 2, last + 1, last + 2, Integer.MIN_VALUE, Integer.MIN_VALUE + 1,
            Integer.MAX_VALUE, Integer.MAX_VALUE - 1, -1, KindSayings.NONE}) {
            numbers.add(no);
        }
        numbers.removeIf(no -> no >= first && no <= last);
        return numbers;
    }

    private static void worlds() {
        number("kinds(k)", 1, 4, Made::full, (x, no) -> x.kinds(no));
        number("most(v)", 1, 6, Made::full, (x, no) -> x.most(no));
        number("put(sort, 1)", 0, 7, Made::full, (x, no) -> x.put(no, 1));
        number("put(5, n)", 0, 6, () -> Made.told("some A:B"), (x, no) -> x.put(5, no));
        number("holds(i)", 0, 9, Made::full, (x, no) -> x.holds(no));
        number("size(i, 0)", 0, 9, Made::full, (x, no) -> x.size(no, 0));
        number("size(1, what)", 0, 2, Made::full, (x, no) -> x.size(1, no));
    }

    private static void texts() {
        number("type(v, n)", 1, 8, Made::full, (x, no) -> x.type(0x4142434445464748L, no));
        number("type(Long.MIN_VALUE, n)", 1, 8, Made::full, (x, no) -> x.type(Long.MIN_VALUE, no));
        number("type(Long.MAX_VALUE, n)", 1, 8, Made::full, (x, no) -> x.type(Long.MAX_VALUE, no));
        number("read(i)", 0, 9, Made::full, (x, no) -> x.read(no));
        number("read(i) of a whole text", 0, 9, () -> {
            KindSayings x = Made.full();
            x.type('C', 1);
            return x;
        }, (x, no) -> x.read(no));
        number("about(i, 0)", 0, 9, Made::full, (x, no) -> x.about(no, 0));
        number("about(0, what)", 0, 5, Made::full, (x, no) -> x.about(0, no));
    }

    private static void whatCanBe() {
        number("can(set)", 0, 1023, Made::full, (x, no) -> x.can(no));
        number("least(set, -1)", 0, 1023, Made::full, (x, no) -> x.least(no, -1));
        number("least(0, sort)", -1, 7, Made::full, (x, no) -> x.least(0, no));
        number("follows(set, 0)", 0, 1023, Made::full, (x, no) -> x.follows(no, 0));
        number("follows(0, i)", 0, 9, Made::full, (x, no) -> x.follows(0, no));
        number("against(set, 0, -1)", 0, 1023, Made::full, (x, no) -> x.against(no, 0, -1));
        number("against(0, i, -1)", 0, 9, Made::full, (x, no) -> x.against(0, no, -1));
        number("against(0, 0, sort)", -1, 7, Made::full, (x, no) -> x.against(0, 0, no));
        number("unsaid(set)", 0, 1023, Made::full, (x, no) -> x.unsaid(no));
        number("clash(set, 0)", 0, 1023, Made::full, (x, no) -> x.clash(no, 0));
        number("clash(1023, what)", 0, 1, Made::full, (x, no) -> x.clash(1023, no));
        number("ask(set)", 0, 1023, Made::full, (x, no) -> x.ask(no));
        number("heaps(set)", 0, 1023, Made::full, (x, no) -> x.heaps(no));
        number("twin(i)", 0, 9, Made::full, (x, no) -> x.twin(no));
    }

    private static void moods() {
        number("moods(bits)", 0, 511, Made::full, (x, no) -> x.moods(no));
        number("round(set, 0, 0, 0)", 0, 1023, Made::full, (x, no) -> x.round(no, 0, 0, 0));
        number("round(1, what, 0, 1)", 0, 3, Made::full, (x, no) -> x.round(1, no, 0, 1));
        number("round(1, 3, x, 1)", 0, 2, Made::full, (x, no) -> x.round(1, 3, no, 1));
        number("round(1, 3, 0, y)", 0, 2, Made::full, (x, no) -> x.round(1, 3, 0, no));
        number("by(set, 0, 0, 0, 0)", 0, 1023, Made::full, (x, no) -> x.by(no, 0, 0, 0, 0));
        number("by(4, what, 0, 2, 1)", 0, 3, Made::full, (x, no) -> x.by(4, no, 0, 2, 1));
        number("by(4, 1, x, 2, 1)", 0, 2, Made::full, (x, no) -> x.by(4, 1, no, 2, 1));
        number("by(4, 1, 0, y, 1)", 0, 2, Made::full, (x, no) -> x.by(4, 1, 0, no, 1));
        number("by(4, 1, 0, 2, part)", 0, 2, Made::full, (x, no) -> x.by(4, 1, 0, 2, no));
        number("shown(set, 0)", 0, 1023, Made::full, (x, no) -> x.shown(no, 0));
        number("shown(1, what)", 0, 3, Made::full, (x, no) -> x.shown(1, no));
        number("count(what)", 0, 4, Made::full, (x, no) -> x.count(no));
    }

    /** Sorts and kinds there are no more of than k tells. */
    private static void withEachK() {
        for (int kinds = 1; kinds <= 4; kinds++) {
            int k = kinds;
            int last = (1 << k) - 1;
            Supplier<KindSayings> made = () -> Made.of(k, 2, "some A:A", "not all A:A");
            number("put(sort, 1), k " + k, 0, last, made, (x, no) -> x.put(no, 1));
            number("least(1, sort), k " + k, -1, last, made, (x, no) -> x.least(1, no));
            number("least(2, sort) of no world, k " + k, -1, last, made, (x, no) -> x.least(2, no));
            number("against(1, 1, sort), k " + k, -1, last, made, (x, no) -> x.against(1, 1, no));
            number("against(2, 0, sort) of no world, k " + k, -1, last, made, (x, no) -> x.against(2, 0, no));
            for (int fact = 0; fact < 4; fact++) {
                int what = fact;
                String of = "(1, " + what + ", ";
                number("round" + of + "x, 0), k " + k, 0, k - 1, made, (x, no) -> x.round(1, what, no, 0));
                number("round" + of + "0, y), k " + k, 0, k - 1, made, (x, no) -> x.round(1, what, 0, no));
                number("by" + of + "x, 0, 0), k " + k, 0, k - 1, made, (x, no) -> x.by(1, what, no, 0, 0));
                number("by" + of + "0, y, 0), k " + k, 0, k - 1, made, (x, no) -> x.by(1, what, 0, no, 0));
            }
        }
    }

    private static void badAheadOfFull() {
        KindSayings x = new KindSayings();
        x.put(7, 6);
        CHECK.due("put(8, 6) on a full world", x.put(8, 6), BAD);
        CHECK.due("put(-1, 6) on a full world", x.put(-1, 6), BAD);
        CHECK.due("put(0, 7) on a full world", x.put(0, 7), BAD);
        CHECK.due("put(0, -1) on a full world", x.put(0, -1), BAD);
        CHECK.due("put(0, greatest int) on a full world", x.put(0, Integer.MAX_VALUE), BAD);
        CHECK.due("put(0, 1) on a full world", x.put(0, 1), FULL);
        Check.type(x, " ".repeat(80));
        CHECK.due("type(0, 9) on a full text", x.type(0, 9), BAD);
        CHECK.due("type(0, 0) on a full text", x.type(0, 0), BAD);
        CHECK.due("type(0, greatest int) on a full text", x.type(0, Integer.MAX_VALUE), BAD);
        CHECK.due("type(0, least int) on a full text", x.type(0, Integer.MIN_VALUE), BAD);
        CHECK.due("type(0, 1) on a full text", x.type(0, 1), FULL);
    }

    private static void badAheadOfState() {
        KindSayings x = Made.told("some A:A", "not some A:A");
        CHECK.due("ask of a set without a world", x.ask(3), STATE);
        CHECK.due("ask of no set, without a world as one", x.ask(3 + 1024), BAD);
        CHECK.due("ask of no set, without a world as one", x.ask(3 + Integer.MIN_VALUE), BAD);
        CHECK.due("ask(-1)", x.ask(-1), BAD);
    }

    private static void badAheadOfWhatIsNone() {
        KindSayings x = Made.told("some A:A", "not some A:A");
        CHECK.due("least(3, 8)", x.least(3, 8), BAD);
        CHECK.due("against(3, 0, -2)", x.against(3, 0, -2), BAD);
        CHECK.due("against(3, 10, -1)", x.against(3, 10, -1), BAD);
        CHECK.due("clash(0, 2)", x.clash(0, 2), BAD);
        CHECK.due("by(0, 2, 0, 0, 3)", x.by(0, 2, 0, 0, 3), BAD);
        CHECK.due("round(0, 2, 3, 0)", x.round(0, 2, 3, 0), BAD);
        Check.type(x, "foo");
        CHECK.due("read(10) of a fault", x.read(10), BAD);
        CHECK.due("read(-1) of a fault", x.read(-1), BAD);
    }

    /** FULL, STATE and a fault leave all as it was, as BAD does. */
    private static void nothingChanges() {
        String before = Made.trace(Made.full());
        KindSayings x = Made.full();
        CHECK.due("put(0, 4) beside three", x.put(0, 4), FULL);
        CHECK.due("put(7, 5) beside two", x.put(7, 5), FULL);
        CHECK.due("what is left by put", Made.trace(x), before);
        x = Made.full();
        CHECK.due("read(0) of 'all B:'", x.read(0), -16);
        CHECK.due("read(9) of 'all B:'", x.read(9), -16);
        CHECK.due("what is left by read", Made.trace(x), before);

        KindSayings clashing = Made.told("some A:A", "not some A:A");
        KindSayings other = Made.told("some A:A", "not some A:A");
        CHECK.due("ask(3)", other.ask(3), STATE);
        CHECK.due("what is left by ask", Made.trace(other), Made.trace(clashing));

        KindSayings text = Made.told();
        Check.type(text, " ".repeat(66) + "all A:");
        CHECK.due("eight bytes behind 72", text.type(0x4142434441424344L, 8), 80);
        CHECK.due("an 81st", text.type('|', 1), FULL);
        CHECK.due("eight more", text.type(0x7c7c7c7c7c7c7c7cL, 8), FULL);
        CHECK.due("the text is as it was", text.count(3), 80);
        CHECK.due("its fault is where it was", text.read(0), -10 - 73);
    }

    /** Refused over and over, behind questions and ahead of them. */
    private static void refusedOften() {
        KindSayings x = Made.full();
        x.can(1);
        for (int turn = 0; turn < 30; turn++) {
            x.kinds(turn % 2 == 0 ? 0 : 5);
            x.most(turn % 2 == 0 ? 0 : 7);
            x.put(turn % 2 == 0 ? 8 : 1, 7);
            x.put(0, 6);
            x.moods(512);
            x.read(turn % 2 == 0 ? 10 : 3);
            x.type(turn, turn % 2 == 0 ? 0 : 9);
        }
        CHECK.due("what is left of 210 refused calls", Made.trace(x), Made.trace(Made.full()));
    }

    public static void main(String[] args) {
        CHECK.sentence("Refused, and nothing changes, the first of these: BAD (a number is not as told, or there is no such "
            + "thing), STATE (as told), FULL.");
        worlds();
        texts();
        whatCanBe();
        moods();
        withEachK();
        badAheadOfFull();
        badAheadOfState();
        badAheadOfWhatIsNone();
        nothingChanges();
        refusedOften();
        CHECK.finish();
    }
}
