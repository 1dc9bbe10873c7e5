import java.io.IOException;
import java.lang.reflect.Constructor;
import java.lang.reflect.Field;
import java.lang.reflect.Method;
import java.lang.reflect.Modifier;
import java.nio.file.Files;
import java.nio.file.Path;
import java.util.ArrayList;
import java.util.List;
import java.util.Set;
import java.util.TreeSet;
import java.util.regex.Matcher;
import java.util.regex.Pattern;

/** The public face is the document's, and the source keeps to the rules of LANGUAGE.md that can be read off it. */
public final class FaceTest {
    private static final Check CHECK = new Check();
    private static final Path SOURCE = Path.of("src/main/java/HotCakes.java");
    private static final String[] FACE = {
        "int feed(long,long,long)", "int griddle()", "int plan()", "int wish()", "int cake(int,int)", "int there(int)",
        "int turn(int)", "boolean undo()", "boolean can(int)", "int cost(int)", "boolean served()", "int judged(int)",
        "int least()", "int row(int)", "int ways()", "int cheap()", "int bill(int)", "int without(int)", "int needed()",
        "int far()", "int toward()", "int never()", "int hard(int)", "int spread(int)", "int dear()", "int rim()",
        "int nth()", "int ring(int,int)", "int pairs()", "int reached(int)", "int gaps()", "boolean sharp()",
        "int again()", "int spare()", "boolean ends()", "int wins(int)", "int his()", "boolean see(int,int,boolean)",
        "boolean lies(int,boolean)", "int fit()", "int look()", "int chance(int,boolean)",
        "int rests(int,int,int,int) throws java.util.NoSuchElementException", "int mornings(int,int,int)",
        "boolean mark(int,boolean)", "int count(int)"};

    public static void main(String[] args) throws IOException {
        face();
        classes();
        source(Files.readString(SOURCE));
        CHECK.end();
    }

    private static String shape(Method method) {
        List<String> takes = new ArrayList<>();
        for (Class<?> type : method.getParameterTypes()) {
            takes.add(type.getName());
        }
        StringBuilder text = new StringBuilder(method.getReturnType().getName()).append(' ').append(method.getName())
            .append('(').append(String.join(",", takes)).append(')');
        for (Class<?> type : method.getExceptionTypes()) {
            text.append(" throws ").append(type.getName());
        }
        return text.toString();
    }

    private static void face() {
        CHECK.promise(1, "the face");
        Set<String> open = new TreeSet<>();
        Set<String> names = new TreeSet<>();
        for (Method method : HotCakes.class.getDeclaredMethods()) {
            if (!Modifier.isPrivate(method.getModifiers())) {
                open.add(shape(method));
                names.add(method.getName());
                CHECK.due("public, of the object: " + method, method.getModifiers(), Modifier.PUBLIC);
            }
        }
        CHECK.due("the methods are the document's: " + open, open.equals(new TreeSet<>(List.of(FACE))), true);
        for (Class<?> inner : HotCakes.class.getDeclaredClasses()) {
            for (Method method : inner.getDeclaredMethods()) {
                CHECK.due("no inner method has a public one's name: " + method, names.contains(method.getName()), false);
            }
        }
        for (Method method : HotCakes.class.getDeclaredMethods()) {
            boolean hidden = Modifier.isPrivate(method.getModifiers());
            CHECK.due("no private one has a public one's name: " + method, hidden && names.contains(method.getName()), false);
        }
        for (Field field : HotCakes.class.getDeclaredFields()) {
            boolean none = field.getName().equals("NONE");
            boolean right = none ? field.getModifiers() == (Modifier.PUBLIC | Modifier.STATIC | Modifier.FINAL)
                : Modifier.isPrivate(field.getModifiers());
            CHECK.due("one public constant, all else private: " + field, right, true);
        }
        Constructor<?>[] constructors = HotCakes.class.getDeclaredConstructors();
        CHECK.due("one constructor", constructors.length, 1);
        CHECK.due("public, without arguments", constructors[0].getModifiers() * 8 + constructors[0].getParameterCount(), 8);
        CHECK.due("public and final", HotCakes.class.getModifiers(), Modifier.PUBLIC | Modifier.FINAL);
    }

    private static void classes() {
        CHECK.promise(1, "LANGUAGE.md, classes");
        Class<?>[] inner = HotCakes.class.getDeclaredClasses();
        CHECK.due("some twelve classes", inner.length + 1 <= 12, true);
        for (Class<?> each : inner) {
            CHECK.due("static and not public: " + each,
                Modifier.isStatic(each.getModifiers()) && !Modifier.isPublic(each.getModifiers()), true);
            fields(each);
            parameters(each);
        }
        fields(HotCakes.class);
        parameters(HotCakes.class);
    }

    private static void parameters(Class<?> each) {
        for (Method method : each.getDeclaredMethods()) {
            CHECK.due("at most seven parameters: " + method, method.getParameterCount() <= 7, true);
        }
    }

    private static void fields(Class<?> each) {
        int own = 0;
        for (Field field : each.getDeclaredFields()) {
            boolean fixed = Modifier.isStatic(field.getModifiers());
            own += fixed ? 0 : 1;
            CHECK.due("static fields are final: " + field, fixed && !Modifier.isFinal(field.getModifiers()), false);
        }
        CHECK.due("some twenty fields: " + each + " " + own, own <= 20, true);
    }

    private static void source(String text) {
        CHECK.promise(1, "LANGUAGE.md, source");
        String code = text.replaceAll("(?s)/\\*.*?\\*/", "").replaceAll("//[^\n]*", "");
        for (String word : List.of("->", "::", "catch", "finally", "synchronized", "assert ", "System.", "Math.random",
            "Exact(", "instanceof", "@", "clone", "NaN", "double", "float", "hashCode", "equals(", "toString", "printStack",
            "volatile", "ordinal(", "name()", "valueOf", "package ")) {
            CHECK.due("no " + word, code.contains(word), false);
        }
        CHECK.due("two imports", count(code, "\nimport |^import "), 2);
        CHECK.due("throws in rests alone", count(code, "throw new NoSuchElementException\\(\\)"), count(code, "throw new"));
        CHECK.due("no texts joined by +", count(code, "\" *\\+|\\+ *\""), 0);
        CHECK.due("signs 1 to 127 alone", text.chars().allMatch(sign -> sign > 0 && sign < 128), true);
        int line = 0;
        int begun = 0;
        for (String each : code.split("\n")) {
            line++;
            if (each.matches(" {4,8}[a-zA-Z].*\\) (throws \\w+ )?\\{")) {
                begun = line;
            }
            if (each.matches(" {4,8}\\}") && begun > 0) {
                CHECK.due("some sixty lines, to line " + line, line - begun <= 60, true);
                begun = 0;
            }
        }
    }

    private static int count(String code, String pattern) {
        Matcher matcher = Pattern.compile(pattern).matcher(code);
        int found = 0;
        while (matcher.find()) {
            found++;
        }
        return found;
    }
}
