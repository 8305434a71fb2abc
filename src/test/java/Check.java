/** Counts the answers that are not the ones that are due, and tells each of them. */
final class Check {
    private int wrong = 0;
    private int seen = 0;
    private String sentence = "";

    /** The document's words that are looked at from here on; each answer that is not due is told with them. */
    void sentence(String words) {
        sentence = words;
        Quotes.add(words);
    }

    void due(String call, long got, long want) {
        due(call, String.valueOf(got), String.valueOf(want));
    }

    void due(String call, String got, String want) {
        seen++;
        if (!got.equals(want)) {
            wrong++;
            System.out.println(call + " answered " + got + ", due is " + want + (sentence.isEmpty() ? "" : " by: " + sentence));
        }
    }

    boolean isClean() {
        return wrong == 0;
    }

    void finish() {
        System.out.println(seen + " answers looked at, " + wrong + " not as due");
        if (wrong != 0) {
            System.exit(1);
        }
    }

    /** Types a text, eight bytes a call at most; the last call's answer. */
    static int type(KindSayings x, String text) {
        int answer = 0;
        for (int from = 0; from < text.length(); from += 8) {
            String part = text.substring(from, Math.min(from + 8, text.length()));
            answer = x.type(packed(part), part.length());
        }
        return answer;
    }

    static long packed(String part) {
        long v = 0;
        for (int i = 0; i < part.length(); i++) {
            v = v << 8 | part.charAt(i);
        }
        return v;
    }

    /** Reads a text as a saying; what stood in the text before is gone, and so is what was not read. */
    static int tell(KindSayings x, int i, String text) {
        x.clear();
        type(x, text);
        int answer = x.read(i);
        x.clear();
        return answer;
    }
}
