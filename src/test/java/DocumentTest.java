import java.io.IOException;
import java.lang.reflect.Method;
import java.lang.reflect.Modifier;
import java.nio.file.Files;
import java.nio.file.Path;
import java.util.ArrayList;
import java.util.HashMap;
import java.util.List;
import java.util.Map;
import java.util.TreeSet;
import java.util.regex.MatchResult;
import java.util.regex.Pattern;

/** The document's own words: the face that it writes, the sentences that tests quote, the calls that README.md shows. */
public final class DocumentTest {
    private static final Check CHECK = new Check();
    private static final Path DOCUMENT = Path.of("../shared/DOC.md");
    private static final Path README = Path.of("README.md");
    private static final Path TESTS = Path.of("src/test/java");
    private static final int CALLS = 512;
    private static final int PROMISES = 47;

    public static void main(String[] args) throws IOException {
        String document = Files.readString(DOCUMENT);
        List<String> tests = sources();
        face(document);
        quotes(document.replaceAll("\\s+", " "), tests);
        promises(tests);
        readme(Files.readString(README));
        calls();
        CHECK.end();
    }

    private static List<String> sources() throws IOException {
        List<Path> paths;
        try (var files = Files.list(TESTS)) {
            paths = files.filter(path -> path.toString().endsWith("Test.java")).sorted().toList();
        }
        List<String> texts = new ArrayList<>();
        for (Path path : paths) {
            texts.add(Files.readString(path));
        }
        return texts;
    }

    private static List<MatchResult> found(String pattern, String text) {
        return Pattern.compile(pattern, Pattern.DOTALL).matcher(text).results().toList();
    }

    // ---- the face ----

    private static String shape(Method method) {
        List<String> takes = new ArrayList<>();
        for (Class<?> type : method.getParameterTypes()) {
            takes.add(type.getSimpleName());
        }
        StringBuilder text = new StringBuilder(method.getReturnType().getSimpleName()).append(' ').append(method.getName())
            .append('(').append(String.join(", ", takes)).append(')');
        for (Class<?> type : method.getExceptionTypes()) {
            text.append(" throws ").append(type.getSimpleName());
        }
        return text.toString();
    }

    private static void face(String document) {
        CHECK.sentence("the public face", "public final class HotCakes");
        String block = found("```java(.*?)```", document).get(0).group(1);
        TreeSet<String> want = new TreeSet<>();
        for (MatchResult row : found("public (\\w+ \\w+)\\(([^)]*)\\)([^;]*);", block)) {
            want.add(row.group(1) + "(" + row.group(2).replaceAll(" \\w+(?=,|$)", "") + ")" + row.group(3));
        }
        TreeSet<String> got = new TreeSet<>();
        for (Method method : HotCakes.class.getDeclaredMethods()) {
            if (Modifier.isPublic(method.getModifiers())) {
                got.add(shape(method));
            }
        }
        CHECK.due("as many methods as there are promises but the first", want.size(), PROMISES - 1);
        CHECK.due("the methods " + got + " are " + want, got.equals(want), true);
    }

    // ---- what the tests quote, and ask ----

    private static void quotes(String document, List<String> tests) {
        CHECK.about("what the tests quote stands in the document");
        int quotes = 0;
        String literal = "\"(?:[^\"\\\\]|\\\\.)*\"";
        String sentence = "CHECK\\.sentence\\((" + literal + "),\\s*((?:" + literal + "|[\\s+])+)\\);";
        for (String test : tests) {
            for (MatchResult quote : found(sentence, test)) {
                StringBuilder words = new StringBuilder();
                for (MatchResult part : found("\"((?:[^\"\\\\]|\\\\.)*)\"", quote.group(2))) {
                    words.append(part.group(1));
                }
                for (String part : words.toString().split("\\[\\.\\.\\.\\]")) {
                    CHECK.due("'" + part.trim() + "' stands there", document.contains(part.trim()), true);
                    quotes++;
                }
            }
        }
        CHECK.due("some 200 quotes were found: " + quotes, quotes > 200, true);
    }

    private static void promises(List<String> tests) {
        CHECK.about("each promise is asked");
        TreeSet<Integer> asked = new TreeSet<>();
        for (String test : tests) {
            for (MatchResult promise : found("CHECK\\.promise\\((\\d+),", test)) {
                asked.add(Integer.parseInt(promise.group(1)));
            }
        }
        for (int promise = 1; promise <= PROMISES; promise++) {
            CHECK.due("promise " + promise + " has a test of its own", asked.contains(promise), true);
        }
    }

    // ---- README.md ----

    private static Object argument(Class<?> type, String text) {
        if (type == long.class) {
            String number = text.replace("L", "");
            return Long.decode(number);
        }
        return type == boolean.class ? (Object) Boolean.valueOf(text) : (Object) Integer.decode(text);
    }

    private static String answer(HotCakes x, Method method, String arguments) {
        Class<?>[] types = method.getParameterTypes();
        String[] texts = arguments.split(", *");
        Object[] values = new Object[types.length];
        for (int i = 0; i < types.length; i++) {
            values[i] = argument(types[i], texts[i]);
        }
        try {
            return String.valueOf(method.invoke(x, values));
        } catch (ReflectiveOperationException thrown) {
            return thrown.toString();
        }
    }

    private static void readme(String text) {
        CHECK.about("README.md");
        Map<String, Method> methods = new HashMap<>();
        for (Method method : HotCakes.class.getDeclaredMethods()) {
            if (Modifier.isPublic(method.getModifiers())) {
                methods.put(method.getName(), method);
                CHECK.due("it names " + method.getName(), text.contains("`" + method.getName() + "`"), true);
            }
        }
        String block = found("```java(.*?)```", text).get(0).group(1);
        HotCakes x = new HotCakes();
        List<MatchResult> rows = found("x\\.(\\w+)\\(([^)]*)\\);\\s*// (-?\\w+)", block);
        for (MatchResult row : rows) {
            String call = row.group(1) + "(" + row.group(2) + ")";
            String got = answer(x, methods.get(row.group(1)), row.group(2));
            CHECK.due(call + ", " + got + ", is " + row.group(3), got.equals(row.group(3)), true);
        }
        CHECK.due("each row was tried", rows.size(), found("\nx\\.", block).size());
    }

    // ---- all its calls ----

    private static void calls() {
        CHECK.sentence("What it is", "An object is used for at most 512 calls after it has been made");
        HotCakes x = new HotCakes();
        CHECK.due("count, feed and griddle", Check.griddle(x, "cake a plain wide 1 up;"), 0);
        int turns = CALLS - 4;
        for (int turn = 1; turn <= turns; turn++) {
            CHECK.due("turn " + turn, x.turn(1), 1);
        }
        CHECK.due("the last call counts all turns", x.count(2), turns);
    }
}
