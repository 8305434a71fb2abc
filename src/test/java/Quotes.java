import java.nio.file.Files;
import java.nio.file.Path;
import java.util.ArrayList;
import java.util.Arrays;
import java.util.List;

/**
 * Which of the document's words the tests of boundaries quote. As a program, run from the project's folder, it tells
 * what no test quotes and what is quoted but stands nowhere; no test itself, for the document may be told anew.
 */
final class Quotes {
    private static final List<String> QUOTED = new ArrayList<>();

    private Quotes() {
    }

    static void add(String words) {
        QUOTED.add(words);
    }

    private static String onOneLine(String text) {
        return text.replaceAll("\\s+", " ").trim();
    }

    /** How long an object is used, the terms and the promises, without headings and what frames them. */
    private static String promised() throws Exception {
        String text = Files.readString(Path.of("../shared/DOC.md"));
        text = text.substring(text.indexOf("An object is used"), text.indexOf("## The public face"))
            + text.substring(text.indexOf("## Terms"), text.indexOf("## Not promised"));
        text = text.replaceAll("(?m)^(## .*|```.*|Ahead of the calls .*)$", "");
        text = text.replaceAll("`(int|KindSayings)\\b[^`]*`:", "").replaceAll("={8} \\d", "");
        return onOneLine(text);
    }

    public static void main(String[] args) throws Exception {
        WorldBoundsTest.main(args);
        TextBoundsTest.main(args);
        CanBeBoundsTest.main(args);
        MoodBoundsTest.main(args);
        RefusalsTest.main(args);
        String doc = promised();
        boolean[] quoted = new boolean[doc.length()];
        for (String words : QUOTED) {
            String quote = onOneLine(words);
            int at = doc.indexOf(quote);
            if (at < 0) {
                System.out.println("stands nowhere: " + quote);
            }
            for (; at >= 0; at = doc.indexOf(quote, at + 1)) {
                Arrays.fill(quoted, at, at + quote.length(), true);
            }
        }
        StringBuilder left = new StringBuilder();
        for (int at = 0; at < doc.length(); at++) {
            left.append(quoted[at] ? '\n' : doc.charAt(at));
        }
        System.out.println("not quoted: " + left.toString().replaceAll("\\s*\n\\s*", "\n").replaceAll("\n+", " ~ "));
    }
}
