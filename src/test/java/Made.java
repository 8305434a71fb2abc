/** Objects made ready for a test, and what can be seen of them. */
final class Made {
    private Made() {
    }

    /** Of three kinds, worlds of four things at most. */
    static KindSayings told(String... texts) {
        return of(3, 4, texts);
    }

    static KindSayings of(int k, int n, String... texts) {
        KindSayings x = new KindSayings();
        x.kinds(k);
        x.most(n);
        tell(x, texts);
        return x;
    }

    /** Tells sayings from the first on. */
    static void tell(KindSayings x, String... texts) {
        for (int i = 0; i < texts.length; i++) {
            if (Check.tell(x, i, texts[i]) != 1) {
                throw new IllegalStateException("not read: " + texts[i]);
            }
        }
    }

    /** An object in whose every part there is something to lose. */
    static KindSayings full() {
        KindSayings x = of(3, 3, "not all A:B", "least 2 A|B:!C", "some C:A", "even A:B&C", "no (A):B");
        x.moods(300);
        x.put(3, 2);
        x.put(7, 1);
        Check.type(x, "all B:");
        return x;
    }

    /** The world at hand becomes one of so many things of each sort. */
    static void world(KindSayings x, int... things) {
        for (int sort = 0; sort < 1 << x.count(0); sort++) {
            x.put(sort, 0);
        }
        for (int sort = 0; sort < things.length; sort++) {
            x.put(sort, things[sort]);
        }
    }

    /** The least world of a set, as the row of its things' sorts; "none". */
    static String least(KindSayings x, int set) {
        int[] things = new int[1 << x.count(0)];
        for (int sort = 0; sort < things.length; sort++) {
            things[sort] = x.least(set, sort);
        }
        return row(x.least(set, -1), things);
    }

    /** The first world of a set against a saying, told likewise. */
    static String against(KindSayings x, int set, int i) {
        int[] things = new int[1 << x.count(0)];
        for (int sort = 0; sort < things.length; sort++) {
            things[sort] = x.against(set, i, sort);
        }
        return row(x.against(set, i, -1), things);
    }

    private static String row(int all, int[] things) {
        StringBuilder row = new StringBuilder();
        int sum = 0;
        int none = 0;
        for (int sort = 0; sort < things.length; sort++) {
            none += things[sort] == KindSayings.NONE ? 1 : 0;
            sum += things[sort];
            row.append((sort + " ").repeat(Math.max(0, things[sort])));
        }
        if (all == KindSayings.NONE && none == things.length) {
            return "none";
        }
        return sum == all ? row.toString().trim() : "all " + all + ", but " + row;
    }

    /** All that calls can tell of an object, what stands in its text too; the object is changed by it. */
    static String trace(KindSayings x) {
        StringBuilder told = new StringBuilder();
        for (int what = 0; what < 5; what++) {
            told.append(x.count(what)).append(' ');
        }
        told.append(x.worlds()).append(' ');
        for (int i = 0; i < 10; i++) {
            about(x, i, told);
            for (int what = 0; what < 3; what++) {
                told.append(x.size(i, what)).append(' ');
            }
            told.append(x.holds(i)).append(' ').append(x.can(1 << i)).append(' ').append(x.twin(i)).append(' ');
        }
        told.append(least(x, 0)).append(' ').append(against(x, 0, 1)).append(' ').append(x.ask(0)).append(' ');
        told.append(x.unsaid(1023)).append(' ').append(x.clash(1023, 1)).append(' ').append(x.heaps(0)).append(' ');
        for (int what = 0; what < 4; what++) {
            told.append(x.shown(1023, what)).append(' ');
        }
        told.append(x.moods(255)).append(' ');
        for (int sort = 0; sort < 1 << x.count(0); sort++) {
            told.append(x.put(sort, 0)).append(' ');
        }
        // What the text holds shows in what it becomes with one more kind behind it.
        told.append(x.type('A', 1)).append(' ').append(x.read(9)).append(' ');
        about(x, 9, told);
        return told.append(x.clear()).toString();
    }

    private static void about(KindSayings x, int i, StringBuilder told) {
        for (int what = 0; what < 6; what++) {
            told.append(x.about(i, what)).append(' ');
        }
    }
}
