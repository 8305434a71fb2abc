import java.lang.reflect.Method;
import java.lang.reflect.Modifier;
import java.nio.file.Files;
import java.nio.file.Path;
import java.util.regex.Matcher;
import java.util.regex.Pattern;

/** That README.md tells the truth: its example is run as it stands there, from the project's folder. */
public final class ReadmeTest {
    private static final Pattern LINE = Pattern.compile("(?m)^x\\.(\\w+)\\(([^)]*)\\);\\s*// (-?\\d+): ");

    private ReadmeTest() {
    }

    private static Method called(String name) {
        for (Method method : KindSayings.class.getDeclaredMethods()) {
            if (method.getName().equals(name) && Modifier.isPublic(method.getModifiers())) {
                return method;
            }
        }
        throw new IllegalStateException("no such call: " + name);
    }

    private static Object number(String text, Class<?> type) {
        if (type == long.class) {
            return Long.decode(text.replaceAll("L$", ""));
        }
        return Integer.decode(text);
    }

    private static int answer(KindSayings x, String name, String list) throws Exception {
        Method method = called(name);
        Class<?>[] types = method.getParameterTypes();
        String[] texts = list.isEmpty() ? new String[0] : list.split(", *");
        Object[] given = new Object[types.length];
        for (int i = 0; i < given.length; i++) {
            given[i] = number(texts[i], types[i]);
        }
        return (int) method.invoke(x, given);
    }

    public static void main(String[] args) throws Exception {
        Check check = new Check();
        String readme = Files.readString(Path.of("README.md"));
        KindSayings x = new KindSayings();
        Matcher line = LINE.matcher(readme);
        int lines = 0;
        while (line.find()) {
            lines++;
            check.due(line.group(), answer(x, line.group(1), line.group(2)), Integer.parseInt(line.group(3)));
        }
        long all = Pattern.compile("(?m)^x\\.").matcher(readme).results().count();
        check.due("lines of the example that tell their answer", lines, all);
        check.due("the example is there", lines > 0 ? 1 : 0, 1);
        for (Method method : KindSayings.class.getDeclaredMethods()) {
            if (Modifier.isPublic(method.getModifiers())) {
                check.due("README names " + method.getName(), readme.contains("`" + method.getName() + "`") ? 1 : 0, 1);
            }
        }
        check.finish();
    }
}
