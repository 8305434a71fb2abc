import java.nio.file.Files;
import java.nio.file.Path;
import java.util.ArrayList;
import java.util.List;
import java.util.Set;
import java.util.TreeSet;
import java.util.regex.Matcher;
import java.util.regex.Pattern;

/** What can be seen of LANGUAGE.md by looking over the program's text: run from the project's folder. */
public final class LanguageTest {
    private static final String[] BANNED = {
        "throw", "throws", "try", "catch", "finally", "synchronized", "assert", "import", "package", "protected", "native",
        "volatile", "transient", "strictfp", "hashCode", "toString", "Object", "instanceof", "System", "Thread", "float",
        "double", "var", "yield", "lambda"
    };
    private static final Set<String> FACE = new TreeSet<>(List.of("kinds", "most", "worlds", "put", "holds", "size", "type",
        "clear", "read", "about", "can", "least", "follows", "against", "unsaid", "clash", "ask", "heaps", "twin", "moods",
        "round", "by", "shown", "count"));
    private static final Set<String> LIBRARY = Set.of("Math.max", "Math.min", "Integer.bitCount", "Long.bitCount");
    private static final Pattern METHOD =
        Pattern.compile("^ {4,8}(?:(public|private) )?(?:static )?(?:[\\w\\[\\]]+ )?(\\w+)\\(([^()]*)\\) \\{$");

    private static final Check CHECK = new Check();

    /** The program without its comments and what stands between quotes. */
    private static List<String> lines() throws Exception {
        String text = Files.readString(Path.of("src/main/java/KindSayings.java"));
        for (int i = 0; i < text.length(); i++) {
            CHECK.due("sign at " + i, text.charAt(i) < 127 ? 0 : text.charAt(i), 0);
        }
        text = Pattern.compile("/\\*.*?\\*/", Pattern.DOTALL).matcher(text).replaceAll("");
        text = text.replaceAll("//[^\n]*", "").replaceAll("'[^']'", "' '").replaceAll("\"[^\"]*\"", "\"\"");
        return new ArrayList<>(List.of(text.split("\n")));
    }

    private static void wordsAndSigns(String text) {
        for (String word : BANNED) {
            CHECK.due("uses of " + word, Pattern.compile("\\b" + word + "\\b").matcher(text).results().count(), 0);
        }
        CHECK.due("lambdas, method references, arrows", Pattern.compile("->|::").matcher(text).results().count(), 0);
        Matcher calls = Pattern.compile("\\b[A-Z]\\w*\\.(?!length\\b)\\w+").matcher(text);
        while (calls.find()) {
            CHECK.due("library: " + calls.group(), LIBRARY.contains(calls.group()) ? 0 : 1, 0);
        }
        Matcher statics = Pattern.compile("\\bstatic (?!final )([^({]*)[=;]").matcher(text);
        while (statics.find()) {
            CHECK.due("static that is not final: " + statics.group(), 1, 0);
        }
    }

    private static void methods(List<String> lines) {
        Set<String> open = new TreeSet<>();
        for (int at = 0; at < lines.size(); at++) {
            Matcher method = METHOD.matcher(lines.get(at));
            if (!method.matches()) {
                continue;
            }
            String name = method.group(2);
            String indent = lines.get(at).replaceAll("\\S.*", "");
            int end = at;
            while (!lines.get(end).equals(indent + "}")) {
                end++;
            }
            CHECK.due("over sixty lines: " + name, end - at < 60 ? 0 : 1, 0);
            CHECK.due("over seven parameters: " + name, method.group(3).split(",").length > 7 ? 1 : 0, 0);
            if ("public".equals(method.group(1))) {
                open.add(name);
            } else {
                CHECK.due("bears the name of a public one: " + name, FACE.contains(name) ? 1 : 0, 0);
                CHECK.due("neither public nor private: " + name, indent.length() == 4 && method.group(1) == null ? 1 : 0, 0);
            }
        }
        open.remove("KindSayings");
        CHECK.due("the face is whole", open.equals(FACE) ? 0 : 1, 0);
    }

    public static void main(String[] args) throws Exception {
        List<String> lines = lines();
        String text = String.join("\n", lines);
        wordsAndSigns(text);
        methods(lines);
        long classes = Pattern.compile("\\bclass \\w+ \\{").matcher(text).results().count();
        CHECK.due("over twelve classes", classes <= 12 ? 0 : 1, 0);
        CHECK.due("classes inside, all static", Pattern.compile("static final class \\w+ \\{").matcher(text).results().count(),
            classes - 1);
        CHECK.finish();
    }
}
