import java.util.ArrayDeque;
import java.util.ArrayList;
import java.util.Arrays;
import java.util.Deque;
import java.util.List;
import java.util.Map;
import java.util.TreeMap;
import java.util.TreeSet;
import java.util.regex.Matcher;
import java.util.regex.Pattern;

/**
 * The document told a second time, as slowly and plainly as can be, on the Java library:
 * worlds as a sorted list of counts, each question gone through world by world.
 */
final class Model {
    static final int BAD = -1, STATE = -2, FULL = -3, NONE = -9;
    private static final List<String> WORDS =
        List.of("all", "some", "no", "most", "least", "just", "more", "even");
    private static final Pattern TOKEN = Pattern.compile("[a-z]+|[0-9]+|[A-D:|&!()]");

    /** A token and its place; an empty one ends the text, a null text is none that there is. */
    private record Token(String text, int place) { }

    private static final class Fault extends Exception {
        private static final long serialVersionUID = 1L;
        final int place;

        Fault(int place) {
            this.place = place;
        }
    }

    private static final class Saying {
        boolean turned;
        int word;
        int n;
        List<String> x = List.of("A");
        List<String> y = List.of("A");
        boolean[][] members;

        /** Which sorts are in X and in Y, worked out once. */
        boolean[][] members() {
            if (members == null) {
                members = new boolean[2][16];
                for (int sort = 0; sort < 16; sort++) {
                    members[0][sort] = in(x, sort);
                    members[1][sort] = in(y, sort);
                }
            }
            return members;
        }
    }

    private int k = 3;
    private int n = 4;
    private int bits = 255;
    private int[] world = new int[8];
    private String text = "";
    private Saying[] sayings = fresh();
    private List<int[]> all;
    private int[][] told;

    private static Saying[] fresh() {
        Saying[] row = new Saying[10];
        for (int i = 0; i < 10; i++) {
            row[i] = new Saying();
        }
        return row;
    }

    // ---- reading

    private List<Token> tokens() {
        List<Token> list = new ArrayList<>();
        Matcher matcher = TOKEN.matcher(text);
        int at = 0;
        while (true) {
            while (at < text.length() && text.charAt(at) == ' ') {
                at++;
            }
            if (at == text.length()) {
                list.add(new Token("", at));
                return list;
            }
            matcher.region(at, text.length());
            if (!matcher.lookingAt()) {
                list.add(new Token(null, at));
                return list;
            }
            list.add(new Token(matcher.group(), at));
            at = matcher.end();
        }
    }

    /** One token after the other, with what is open on a stack; the first that cannot stand is the fault. */
    private Saying parse() throws Fault {
        Saying saying = new Saying();
        saying.x = new ArrayList<>();
        saying.y = new ArrayList<>();
        List<String> side = saying.x;
        Deque<String> open = new ArrayDeque<>();
        int nodes = 0;
        String state = "start";
        for (Token token : tokens()) {
            String t = token.text();
            Fault fault = new Fault(token.place());
            if (t == null) {
                throw fault;
            }
            if (state.equals("start") && t.equals("not")) {
                saying.turned = true;
                state = "word";
            } else if (state.equals("start") || state.equals("word")) {
                saying.word = WORDS.indexOf(t);
                if (saying.word < 0) {
                    throw fault;
                }
                state = saying.word == 4 || saying.word == 5 ? "number" : "part";
            } else if (state.equals("number")) {
                if (!t.matches("[0-6]")) {
                    throw fault;
                }
                saying.n = Integer.parseInt(t);
                state = "part";
            } else if (state.equals("part")) {
                boolean kind = t.length() == 1 && t.charAt(0) >= 'A' && t.charAt(0) < 'A' + k;
                boolean opener = t.equals("!") || t.equals("(");
                if (!kind && !opener || opener && open.size() == 8 || ++nodes > 24) {
                    throw fault;
                }
                side.add(t);
                if (opener) {
                    open.push(t);
                } else {
                    endParts(open);
                    state = "joint";
                }
            } else if (t.equals("|") || t.equals("&")) {
                side.add(t);
                state = "part";
            } else if (t.equals(")") && "(".equals(open.peek())) {
                side.add(t);
                open.pop();
                endParts(open);
            } else if (t.equals(":") && open.isEmpty() && side == saying.x) {
                side = saying.y;
                state = "part";
            } else if (t.equals("") && open.isEmpty() && side == saying.y) {
                return saying;
            } else {
                throw fault;
            }
        }
        throw new IllegalStateException("a text without an end");
    }

    private static void endParts(Deque<String> open) {
        while ("!".equals(open.peek())) {
            open.pop();
        }
    }

    // ---- what holds where

    /** Whether a thing of a sort is in a set: the signs go behind what they join, then are worked off. */
    private static boolean in(List<String> side, int sort) {
        Deque<Boolean> values = new ArrayDeque<>();
        Deque<String> signs = new ArrayDeque<>();
        for (String t : side) {
            if (t.equals("!") || t.equals("(")) {
                signs.push(t);
            } else if (t.equals(")")) {
                work(values, signs, "|&!");
                signs.pop();
            } else if (t.equals("|")) {
                work(values, signs, "|&!");
                signs.push(t);
            } else if (t.equals("&")) {
                work(values, signs, "&!");
                signs.push(t);
            } else {
                values.push((sort >> (t.charAt(0) - 'A') & 1) == 1);
            }
        }
        work(values, signs, "|&!");
        return values.pop();
    }

    private static void work(Deque<Boolean> values, Deque<String> signs, String which) {
        while (!signs.isEmpty() && which.contains(signs.peek())) {
            String sign = signs.pop();
            boolean right = values.pop();
            if (sign.equals("!")) {
                values.push(!right);
            } else {
                boolean left = values.pop();
                values.push(sign.equals("|") ? left | right : left & right);
            }
        }
    }

    private int sizeIn(int[] things, Saying saying, int what) {
        int sum = 0;
        for (int sort = 0; sort < things.length; sort++) {
            if (things[sort] > 0) {
                boolean x = saying.members()[0][sort];
                boolean y = saying.members()[1][sort];
                if (what == 0 ? x : what == 1 ? y : x && y) {
                    sum += things[sort];
                }
            }
        }
        return sum;
    }

    private boolean holdsIn(int[] things, Saying saying) {
        int x = sizeIn(things, saying, 0);
        int y = sizeIn(things, saying, 1);
        int both = sizeIn(things, saying, 2);
        boolean plain = switch (WORDS.get(saying.word)) {
            case "all" -> both >= x;
            case "some" -> both >= 1;
            case "no" -> both < 1;
            case "most" -> both > x - both;
            case "least" -> both >= saying.n;
            case "just" -> both == saying.n;
            case "more" -> x > y;
            default -> x == y;
        };
        return saying.turned ? !plain : plain;
    }

    /** All worlds in their order, and which sayings hold in each. */
    private void goThrough() {
        if (all == null) {
            all = new ArrayList<>();
            listWorlds(new int[1 << k], 0, n);
            all.sort(Model::order);
            told = null;
        }
        if (told == null) {
            told = new int[all.size()][];
            for (int w = 0; w < told.length; w++) {
                told[w] = new int[10];
                for (int i = 0; i < 10; i++) {
                    told[w][i] = holdsIn(all.get(w), sayings[i]) ? 1 : 0;
                }
            }
        }
    }

    private void listWorlds(int[] things, int sort, int left) {
        if (sort == things.length) {
            all.add(things.clone());
            return;
        }
        for (int c = 0; c <= left; c++) {
            things[sort] = c;
            listWorlds(things, sort + 1, left - c);
        }
        things[sort] = 0;
    }

    private static int order(int[] a, int[] b) {
        int byThings = Integer.compare(Arrays.stream(a).sum(), Arrays.stream(b).sum());
        return byThings != 0 ? byThings : Arrays.compare(b, a);
    }

    private List<Integer> worldsOf(int set) {
        goThrough();
        List<Integer> list = new ArrayList<>();
        for (int w = 0; w < told.length; w++) {
            boolean fits = true;
            for (int i = 0; i < 10; i++) {
                fits &= (set >> i & 1) == 0 || told[w][i] == 1;
            }
            if (fits) {
                list.add(w);
            }
        }
        return list;
    }

    private int thingsOf(int w, int sort) {
        return sort < 0 ? Arrays.stream(all.get(w)).sum() : all.get(w)[sort];
    }

    // ---- refusals

    private static boolean noSet(int set) {
        return set < 0 || set > 1023;
    }

    private static boolean noSaying(int i) {
        return i < 0 || i > 9;
    }

    private boolean noSort(int sort) {
        return sort < 0 || sort >= 1 << k;
    }

    private boolean noFact(int what, int x, int y) {
        return what < 0 || what > 3 || x < 0 || x >= k || y < 0 || y >= k;
    }

    // ---- the face

    int kinds(int kinds) {
        if (kinds < 1 || kinds > 4) {
            return BAD;
        }
        int before = k;
        k = kinds;
        world = new int[1 << k];
        sayings = fresh();
        all = null;
        return before;
    }

    int most(int v) {
        if (v < 1 || v > 6) {
            return BAD;
        }
        int before = n;
        n = v;
        all = null;
        return before;
    }

    int worlds() {
        return worldsOf(0).size();
    }

    int put(int sort, int many) {
        if (noSort(sort) || many < 0 || many > 6) {
            return BAD;
        }
        int before = world[sort];
        world[sort] = many;
        if (Arrays.stream(world).sum() > 6) {
            world[sort] = before;
            return FULL;
        }
        return before;
    }

    int holds(int i) {
        return noSaying(i) ? BAD : holdsIn(world, sayings[i]) ? 1 : 0;
    }

    int size(int i, int what) {
        return noSaying(i) || what < 0 || what > 2 ? BAD : sizeIn(world, sayings[i], what);
    }

    int type(long v, int many) {
        if (many < 1 || many > 8) {
            return BAD;
        }
        StringBuilder more = new StringBuilder(text);
        for (int i = many; i > 0; i--) {
            more.append((char) (v >> 8 * (i - 1) & 0xff));
        }
        if (more.length() > 80) {
            return FULL;
        }
        text = more.toString();
        return text.length();
    }

    int clear() {
        int before = text.length();
        text = "";
        return before;
    }

    int read(int i) {
        if (noSaying(i)) {
            return BAD;
        }
        try {
            sayings[i] = parse();
        } catch (Fault fault) {
            return -10 - fault.place;
        }
        text = "";
        told = null;
        return 1;
    }

    int about(int i, int what) {
        if (noSaying(i) || what < 0 || what > 5) {
            return BAD;
        }
        Saying saying = sayings[i];
        return switch (what) {
            case 0 -> saying.word;
            case 1 -> setOf(saying.x);
            case 2 -> setOf(saying.y);
            case 3 -> saying.n;
            case 4 -> saying.turned ? 1 : 0;
            default -> fact(saying);
        };
    }

    private int setOf(List<String> side) {
        int set = 0;
        for (int sort = 0; sort < 1 << k; sort++) {
            set += in(side, sort) ? 1 << sort : 0;
        }
        return set;
    }

    private static int fact(Saying saying) {
        if (saying.x.size() != 1 || saying.y.size() != 1 || saying.word > 2) {
            return NONE;
        }
        int what = saying.turned ? new int[] {3, 2, 1}[saying.word] : saying.word;
        return 16 * what + 4 * (saying.x.get(0).charAt(0) - 'A') + saying.y.get(0).charAt(0) - 'A';
    }

    int can(int set) {
        return noSet(set) ? BAD : worldsOf(set).size();
    }

    int least(int set, int sort) {
        if (noSet(set) || sort != -1 && noSort(sort)) {
            return BAD;
        }
        List<Integer> list = worldsOf(set);
        return list.isEmpty() ? NONE : thingsOf(list.get(0), sort);
    }

    private int firstAgainst(int set, int i) {
        for (int w : worldsOf(set)) {
            if (told[w][i] == 0) {
                return w;
            }
        }
        return NONE;
    }

    int follows(int set, int i) {
        return noSet(set) || noSaying(i) ? BAD : firstAgainst(set, i) == NONE ? 1 : 0;
    }

    int against(int set, int i, int sort) {
        if (noSet(set) || noSaying(i) || sort != -1 && noSort(sort)) {
            return BAD;
        }
        int w = firstAgainst(set, i);
        return w == NONE ? NONE : thingsOf(w, sort);
    }

    int unsaid(int set) {
        if (noSet(set)) {
            return BAD;
        }
        int answer = 0;
        for (int i = 0; i < 10; i++) {
            int one = 1 << i;
            answer += (set & one) != 0 && firstAgainst(set - one, i) == NONE ? one : 0;
        }
        return answer;
    }

    int clash(int set, int what) {
        if (noSet(set) || what < 0 || what > 1) {
            return BAD;
        }
        goThrough();
        int[] marks = new int[told.length];
        for (int w = 0; w < told.length; w++) {
            for (int i = 0; i < 10; i++) {
                marks[w] += told[w][i] << i;
            }
        }
        int[] heaps = Arrays.stream(marks).distinct().toArray();
        for (int many = 0; many <= 10; many++) {
            for (int part = 0; part <= set; part++) {
                int wanted = part;
                if ((part | set) == set && Integer.bitCount(part) == many
                    && Arrays.stream(heaps).noneMatch(m -> (m & wanted) == wanted)) {
                    return what == 0 ? many : part;
                }
            }
        }
        return NONE;
    }

    int ask(int set) {
        if (noSet(set)) {
            return BAD;
        }
        List<Integer> list = worldsOf(set);
        if (list.isEmpty()) {
            return STATE;
        }
        TreeMap<Integer, Integer> byGreater = new TreeMap<>();
        for (int i = 0; i < 10; i++) {
            int yes = 0;
            for (int w : list) {
                yes += told[w][i];
            }
            byGreater.putIfAbsent(Math.max(yes, list.size() - yes), i);
        }
        return byGreater.firstEntry().getValue();
    }

    int heaps(int set) {
        if (noSet(set)) {
            return BAD;
        }
        TreeSet<String> heaps = new TreeSet<>();
        for (int w : worldsOf(set)) {
            heaps.add(Arrays.toString(told[w]));
        }
        return heaps.size();
    }

    int twin(int i) {
        if (noSaying(i)) {
            return BAD;
        }
        goThrough();
        for (int j = 0; j < 10; j++) {
            boolean same = j != i;
            for (int w = 0; w < told.length && same; w++) {
                same = told[w][i] == told[w][j];
            }
            if (same) {
                return j;
            }
        }
        return NONE;
    }

    int moods(int moods) {
        if (moods < 0 || moods > 511) {
            return BAD;
        }
        int before = bits;
        bits = moods;
        return before;
    }

    // ---- rounds: facts are numbers, each with the round in which it came and what showed it

    /** Every way in which a mood shows a fact of others: {shown, mood, first, second}. */
    private List<int[]> ways() {
        List<int[]> ways = new ArrayList<>();
        for (int x = 0; x < k; x++) {
            for (int y = 0; y < k; y++) {
                for (int z = 0; z < k; z++) {
                    ways.add(new int[] {f(0, x, z), 0, f(0, x, y), f(0, y, z)});
                    ways.add(new int[] {f(2, x, z), 1, f(0, x, y), f(2, y, z)});
                    ways.add(new int[] {f(1, x, z), 2, f(1, x, y), f(0, y, z)});
                    ways.add(new int[] {f(3, x, z), 3, f(1, x, y), f(2, y, z)});
                    ways.add(new int[] {f(3, x, y), 6, f(3, x, z), f(0, y, z)});
                }
                ways.add(new int[] {f(2, y, x), 4, f(2, x, y), NONE});
                ways.add(new int[] {f(1, y, x), 5, f(1, x, y), NONE});
                ways.add(new int[] {f(1, x, y), 8, f(0, x, y), NONE});
            }
            ways.add(new int[] {f(0, x, x), 7, NONE, NONE});
        }
        ways.removeIf(way -> (bits >> way[1] & 1) == 0);
        ways.sort((a, b) -> Arrays.compare(a, 1, 4, b, 1, 4));
        return ways;
    }

    private static int f(int what, int x, int y) {
        return what * 16 + x * 4 + y;
    }

    /** Of each fact that comes {its round, mood, first, second}. */
    private Map<Integer, int[]> proof(int set) {
        Map<Integer, int[]> came = new TreeMap<>();
        for (int i = 0; i < 10; i++) {
            if ((set >> i & 1) == 1 && fact(sayings[i]) != NONE) {
                came.put(fact(sayings[i]), new int[] {0, NONE, NONE, NONE});
            }
        }
        for (int x = 0; x < k && (bits & 128) != 0; x++) {
            came.putIfAbsent(f(0, x, x), new int[] {0, 7, NONE, NONE});
        }
        List<int[]> ways = ways();
        for (int round = 1;; round++) {
            Map<Integer, int[]> next = new TreeMap<>();
            for (int[] way : ways) {
                boolean stands = (way[2] == NONE || came.containsKey(way[2]))
                    && (way[3] == NONE || came.containsKey(way[3]));
                if (stands && !came.containsKey(way[0])) {
                    next.putIfAbsent(way[0], new int[] {round, way[1], way[2], way[3]});
                }
            }
            if (next.isEmpty()) {
                return came;
            }
            came.putAll(next);
        }
    }

    int round(int set, int what, int x, int y) {
        if (noSet(set) || noFact(what, x, y)) {
            return BAD;
        }
        int[] step = proof(set).get(f(what, x, y));
        return step == null ? NONE : step[0];
    }

    int by(int set, int what, int x, int y, int part) {
        if (noSet(set) || noFact(what, x, y) || part < 0 || part > 2) {
            return BAD;
        }
        int[] step = proof(set).get(f(what, x, y));
        return step == null ? NONE : step[part + 1];
    }

    int shown(int set, int what) {
        if (noSet(set) || what < 0 || what > 3) {
            return BAD;
        }
        Map<Integer, int[]> came = proof(set);
        return switch (what) {
            case 0 -> came.size();
            case 1 -> came.values().stream().mapToInt(step -> step[0]).max().orElse(0);
            case 2 -> quarrel(came) ? 1 : 0;
            default -> beyond(set, came);
        };
    }

    private boolean quarrel(Map<Integer, int[]> came) {
        boolean found = false;
        for (int x = 0; x < k; x++) {
            for (int y = 0; y < k; y++) {
                found |= came.containsKey(f(0, x, y)) && came.containsKey(f(3, x, y));
                found |= came.containsKey(f(1, x, y)) && came.containsKey(f(2, x, y));
            }
        }
        return found;
    }

    private int beyond(int set, Map<Integer, int[]> came) {
        List<Integer> list = worldsOf(set);
        int beyond = 0;
        for (int what = 0; what < 4; what++) {
            for (int x = 0; x < k; x++) {
                for (int y = 0; y < k; y++) {
                    Saying fact = new Saying();
                    fact.word = what == 3 ? 0 : what;
                    fact.turned = what == 3;
                    fact.x = List.of(String.valueOf((char) ('A' + x)));
                    fact.y = List.of(String.valueOf((char) ('A' + y)));
                    boolean follows = list.stream().allMatch(w -> holdsIn(all.get(w), fact));
                    beyond += follows && !came.containsKey(f(what, x, y)) ? 1 : 0;
                }
            }
        }
        return beyond;
    }

    int count(int what) {
        int plain = 0;
        for (int i = 0; i < 10; i++) {
            plain += fact(sayings[i]) == NONE ? 0 : 1 << i;
        }
        return switch (what) {
            case 0 -> k;
            case 1 -> n;
            case 2 -> Arrays.stream(world).sum();
            case 3 -> text.length();
            case 4 -> plain;
            default -> BAD;
        };
    }
}
