/** Runs of calls, made up by a fixed row of numbers, answered by the program and by the model. */
public final class RunsAgainstModelTest {
    private static final String[] WORDS =
        {"all", "some", "no", "most", "least", "just", "more", "even"};
    private static final String[] MORE_TOKENS =
        {"not", "all", "A", "B", "C", "D", ":", "|", "&", "!", "(", ")", "0", "6", "7", "02", "12", "E", "most", "x", " "};

    private long seed;
    private int kinds = 3;
    private KindSayings x;
    private Model model;
    private final Check check;
    private final StringBuilder run = new StringBuilder();

    private RunsAgainstModelTest(long seed, Check check) {
        this.seed = seed;
        this.check = check;
    }

    private int below(int n) {
        seed = seed * 6364136223846793005L + 1442695040888963407L;
        return (int) ((seed >>> 33) % n);
    }

    private int chosen(int... from) {
        return from[below(from.length)];
    }

    // ---- texts

    private String blanks() {
        return "   ".substring(0, chosen(0, 0, 0, 0, 1, 1, 2, 3));
    }

    private String part(int deep) {
        int way = deep == 0 ? 0 : below(6);
        if (way < 3) {
            return String.valueOf((char) ('A' + below(kinds)));
        }
        return way == 3 ? "!" + blanks() + part(deep - 1) : "(" + side(deep - 1) + blanks() + ")";
    }

    private String side(int deep) {
        StringBuilder text = new StringBuilder(blanks()).append(part(deep));
        while (below(3) == 0) {
            text.append(blanks()).append(below(2) == 0 ? "|" : "&").append(blanks()).append(part(deep));
        }
        return text.toString();
    }

    private String saying() {
        boolean simple = below(2) == 0;
        String word = WORDS[simple && below(3) > 0 ? below(3) : below(8)];
        String head = (below(4) == 0 ? blanks() + "not " : "") + blanks() + word + " ";
        String number = word.equals("least") || word.equals("just") ? blanks() + below(7) : "";
        int deep = simple ? 0 : chosen(0, 1, 2, 3);
        String x = simple ? part(0) : side(deep);
        String y = simple ? part(0) : side(deep);
        return head + number + x + blanks() + ":" + blanks() + y + blanks();
    }

    private String broken(String text) {
        StringBuilder broken = new StringBuilder(text);
        for (int i = chosen(0, 1, 1, 2); i >= 0; i--) {
            int at = below(broken.length() + 1);
            int way = below(4);
            if (way == 0) {
                broken.insert(at, MORE_TOKENS[below(MORE_TOKENS.length)]);
            } else if (way == 1 && at < broken.length()) {
                broken.deleteCharAt(at);
            } else if (way == 2) {
                broken.setLength(at);
            } else {
                broken.insert(at, (char) below(256));
            }
        }
        return broken.toString();
    }

    private String large() {
        StringBuilder text = new StringBuilder("no ");
        int parts = 20 + below(8);
        int brackets = 0;
        for (int i = 0; i < parts; i++) {
            int way = below(5);
            if (way == 0 && brackets < 9) {
                text.append('(');
                brackets++;
            } else if (way == 1) {
                text.append('!');
            } else {
                text.append((char) ('A' + below(kinds)));
                while (brackets > 0 && below(3) == 0) {
                    text.append(')');
                    brackets--;
                }
                text.append(i + 1 < parts ? below(2) == 0 ? "|" : "&" : "");
            }
        }
        text.append("A").append(")".repeat(brackets)).append(":B");
        return text.substring(0, Math.min(80, text.length()));
    }

    private String text() {
        int way = below(10);
        return way == 0 ? large() : way < 3 ? broken(saying()) : saying();
    }

    // ---- calls

    private void due(String call, int got, int want) {
        run.append(call).append(" = ").append(want).append("; ");
        check.due(call, got, want);
    }

    private void tell() {
        String text = text();
        for (int from = 0; from < text.length(); from += 8) {
            String piece = text.substring(from, Math.min(from + 8, text.length()));
            long high = piece.length() < 8 ? (long) below(1 << 30) << (8 * piece.length()) : 0;
            long v = Check.packed(piece) | (piece.length() < 8 ? high : 0);
            due("type(" + v + "L, " + piece.length() + ")", x.type(v, piece.length()), model.type(v, piece.length()));
        }
        int i = chosen(0, 1, 2, 3, 4, 5, 6, 7, 8, 9, 0, 1, 2, 3, below(40) == 0 ? 10 : 4);
        int answer = model.read(i);
        due("read(" + i + ") of '" + text + "'", x.read(i), answer);
        if (answer != 1 && below(8) > 0) {
            due("clear()", x.clear(), model.clear());
        }
    }

    private int set() {
        int way = below(60);
        return way == 0 ? chosen(-1, 1024, Integer.MIN_VALUE, Integer.MAX_VALUE)
            : way < 30 ? below(16) : way < 40 ? below(1024) & below(1024) : below(1024);
    }

    private int saidOne() {
        return below(50) == 0 ? chosen(-1, 10, Integer.MIN_VALUE, Integer.MAX_VALUE) : below(10);
    }

    private int sort() {
        return below(30) == 0 ? chosen(-2, 16, 1 << kinds, Integer.MAX_VALUE, Integer.MIN_VALUE)
            : below(1 << kinds) - (below(3) == 0 ? 1 : 0);
    }

    private int small(int n) {
        return below(40) == 0 ? chosen(-1, n, Integer.MIN_VALUE, Integer.MAX_VALUE) : below(n);
    }

    private void shape(boolean large) {
        if (below(3) == 0) {
            int k = below(4) == 0 ? chosen(0, 5, -1) : chosen(1, 2, 3, large ? 4 : 3);
            int was = model.kinds(k);
            due("kinds(" + k + ")", x.kinds(k), was);
            kinds = model.count(0);
        } else {
            int v = below(5) == 0 ? chosen(0, 7, -3) : 1 + below(kinds == 4 && !large ? 3 : kinds == 4 ? 4 : 6);
            due("most(" + v + ")", x.most(v), model.most(v));
        }
        due("worlds()", x.worlds(), model.worlds());
    }

    private void atHand() {
        int sort = sort();
        int n = small(below(3) == 0 ? 7 : 3);
        due("put(" + sort + ", " + n + ")", x.put(sort, n), model.put(sort, n));
        int i = saidOne();
        int what = small(3);
        due("holds(" + i + ")", x.holds(i), model.holds(i));
        due("size(" + i + ", " + what + ")", x.size(i, what), model.size(i, what));
    }

    private void possible() {
        int s = set();
        int i = saidOne();
        int sort = sort();
        int what = small(2);
        switch (below(10)) {
            case 0: due("can(" + s + ")", x.can(s), model.can(s)); break;
            case 1: due("least(" + s + ", " + sort + ")", x.least(s, sort), model.least(s, sort)); break;
            case 2: due("follows(" + s + ", " + i + ")", x.follows(s, i), model.follows(s, i)); break;
            case 3: case 4:
                due("against(" + s + ", " + i + ", " + sort + ")", x.against(s, i, sort), model.against(s, i, sort));
                break;
            case 5: due("unsaid(" + s + ")", x.unsaid(s), model.unsaid(s)); break;
            case 6: due("clash(" + s + ", " + what + ")", x.clash(s, what), model.clash(s, what)); break;
            case 7: due("ask(" + s + ")", x.ask(s), model.ask(s)); break;
            case 8: due("heaps(" + s + ")", x.heaps(s), model.heaps(s)); break;
            default: due("twin(" + i + ")", x.twin(i), model.twin(i)); break;
        }
    }

    private void moody() {
        int s = set();
        int what = small(4);
        int a = small(kinds);
        int b = small(kinds);
        int part = small(3);
        switch (below(6)) {
            case 0:
                int bits = below(9) == 0 ? chosen(-1, 512, 1 << 30) : below(3) == 0 ? 511 : below(512) | below(512);
                due("moods(" + bits + ")", x.moods(bits), model.moods(bits));
                break;
            case 1: case 2:
                String fact = s + ", " + what + ", " + a + ", " + b;
                due("round(" + fact + ")", x.round(s, what, a, b), model.round(s, what, a, b));
                due("by(" + fact + ", " + part + ")", x.by(s, what, a, b, part), model.by(s, what, a, b, part));
                break;
            case 3: case 4: due("shown(" + s + ", " + what + ")", x.shown(s, what), model.shown(s, what)); break;
            default:
                int one = saidOne();
                int of = small(6);
                due("about(" + one + ", " + of + ")", x.about(one, of), model.about(one, of));
                due("count(" + of + ")", x.count(of), model.count(of));
                break;
        }
    }

    private void allOfARun(boolean large) {
        x = new KindSayings();
        model = new Model();
        for (int i = chosen(3, 6, 12, 12); i > 0; i--) {
            tell();
        }
        for (int turn = 0; turn < 120 && check.isClean(); turn++) {
            int way = below(30);
            if (way == 0 && below(3) == 0) {
                shape(large);
                for (int i = chosen(0, 4, 8); i > 0; i--) {
                    tell();
                }
            } else if (way < 4) {
                tell();
            } else if (way < 8) {
                atHand();
            } else if (way < 18) {
                possible();
            } else {
                moody();
            }
        }
        if (!check.isClean()) {
            System.out.println(run);
        }
    }

    public static void main(String[] args) {
        int runs = args.length > 0 ? Integer.parseInt(args[0]) : 300;
        long from = args.length > 1 ? Long.parseLong(args[1]) : 1;
        Check check = new Check();
        for (int i = 0; i < runs && check.isClean(); i++) {
            new RunsAgainstModelTest(977 * (from + i), check).allOfARun(i % 10 == 0);
        }
        check.finish();
    }
}
