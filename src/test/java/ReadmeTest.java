import java.io.IOException;
import java.lang.reflect.Method;
import java.lang.reflect.Modifier;
import java.nio.file.Files;
import java.nio.file.Path;
import java.util.HashMap;
import java.util.List;
import java.util.Map;
import java.util.regex.Matcher;
import java.util.regex.Pattern;
import java.util.stream.Stream;

/** README.md says what is so: its example answers as told there, and it names every method and every test. */
public final class ReadmeTest {
    private static final Path README = Path.of("README.md");
    private static final Pattern CALL =
        Pattern.compile("(?:int (\\w+) = )?lake\\.(\\w+)\\(([^)]*)\\); +// (-?\\d+)(:.*)?");

    public static void main(String[] args) throws IOException, ReflectiveOperationException {
        String page = Files.readString(README);
        example(page);
        names(page);
        errors(page);
        Due.finish("ReadmeTest");
    }

    private static void example(String page) throws ReflectiveOperationException {
        int from = page.indexOf("```java\n");
        int to = from < 0 ? -1 : page.indexOf("```\n", from + 8);
        Due.due("README.md has an example", to >= 0 ? 1 : 0, 1);
        if (to < 0) {
            return;
        }
        List<String> lines = page.substring(from + 8, to).lines().toList();
        Due.due("it makes an object", lines.get(0).equals("LakeSwimmers lake = new LakeSwimmers();") ? 1 : 0, 1);
        LakeSwimmers lake = new LakeSwimmers();
        Map<String, Integer> named = new HashMap<>();
        for (String line : lines.subList(1, lines.size())) {
            Matcher call = CALL.matcher(line);
            boolean isCall = call.matches();
            Due.due("a call and its answer: " + line, isCall ? 1 : 0, 1);
            if (isCall) {
                int got = answer(lake, call.group(2), call.group(3).split(", "), named);
                Due.due(line, got, Integer.parseInt(call.group(4)));
                named.put(call.group(1), got);
            }
        }
    }

    private static int answer(LakeSwimmers lake, String name, String[] words, Map<String, Integer> named)
            throws ReflectiveOperationException {
        for (Method m : LakeSwimmers.class.getDeclaredMethods()) {
            if (m.getName().equals(name)) {
                Object[] given = new Object[words.length];
                for (int i = 0; i < words.length; i++) {
                    int v = named.containsKey(words[i]) ? named.get(words[i]) : Integer.parseInt(words[i]);
                    given[i] = m.getParameterTypes()[i] == long.class ? (Object) (long) v : (Object) v;
                }
                return (int) m.invoke(lake, given);
            }
        }
        throw new NoSuchMethodException(name);
    }

    private static void names(String page) throws IOException {
        String table = between(page, "## What a call answers", "## How an ERROR");
        for (Method m : LakeSwimmers.class.getDeclaredMethods()) {
            if (Modifier.isPublic(m.getModifiers())) {
                Due.due("README.md says what `" + m.getName() + "` answers",
                    table.contains("`" + m.getName() + "`") ? 1 : 0, 1);
            }
        }
        try (Stream<Path> files = Files.list(Path.of("src/test/java"))) {
            for (Path file : files.sorted().toList()) {
                String test = file.getFileName().toString().replace(".java", "");
                Due.due("README.md names `" + test + "`", page.contains("`" + test + "`") ? 1 : 0, 1);
            }
        }
        Due.due("README.md says how tests are run", page.contains("\n    .ci/run\n") ? 1 : 0, 1);
    }

    private static void errors(String page) {
        String table = between(page, "## How an ERROR", "## Tests");
        String[] errors = {"BEYOND", "NONE", "STATE", "FULL", "KIND"};
        for (int k = 1; k <= errors.length; k++) {
            String row = "| " + (Due.LOW - k) + " | " + errors[k - 1] + " |";
            Due.due("README.md has " + row, table.contains(row) ? 1 : 0, 1);
        }
    }

    private static String between(String page, String begin, String end) {
        int from = page.indexOf(begin);
        int to = page.indexOf(end);
        return from < 0 || to < from ? "" : page.substring(from, to);
    }
}
