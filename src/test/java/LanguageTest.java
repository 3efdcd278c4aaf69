import java.io.IOException;
import java.lang.reflect.Field;
import java.lang.reflect.Method;
import java.lang.reflect.Modifier;
import java.nio.file.Files;
import java.nio.file.Path;
import java.util.ArrayList;
import java.util.List;
import java.util.Set;
import java.util.regex.Matcher;
import java.util.regex.Pattern;

/**
 * The rules of LANGUAGE.md that can be seen from the class's text or by reflection; it is run from the
 * project's directory. Rule 1 is looked at in {@link FaceTest} too. What the rules leave to judgement
 * (that every index is looked at, that every loop ends) is not tested here.
 */
final class LanguageTest {
    private static final Check CHECK = new Check("LanguageTest");
    private static final Path SOURCES = Path.of("src/main/java");
    private static final Set<String> LIBRARY = Set.of("Integer", "Long", "Math");
    private static final Set<Class<?>> CONSTANTS = Set.of(int.class, long.class, boolean.class, char.class,
        String.class, int[].class, long[].class, char[].class, byte[].class);

    public static void main(String[] args) throws IOException {
        oneFile();
        String code = withoutComments(Files.readString(SOURCES.resolve("TaperedQuire.java")));
        words(code);
        library(code);
        lengths(code);
        objects(code);
        List<Class<?>> classes = classes();
        CHECK.due("11: at most twelve classes, not " + classes.size(), classes.size() <= 12, true);
        for (Class<?> c : classes) {
            members(c);
        }
        CHECK.end();
    }

    private static void oneFile() throws IOException {
        try (var files = Files.list(SOURCES)) {
            CHECK.due("one file", files.count(), 1);
        }
    }

    private static String withoutComments(String text) {
        return text.replaceAll("(?s)/\\*.*?\\*/", "").replaceAll("//[^\n]*", "");
    }

    private static boolean has(String code, String regex) {
        return Pattern.compile(regex).matcher(code).find();
    }

    private static void words(String code) {
        for (String word : "throw throws try catch finally synchronized assert import package".split(" ")) {
            CHECK.due("the word " + word, has(code, "\\b" + word + "\\b"), false);
        }
        CHECK.due("2: a lambda", code.contains("->"), false);
        CHECK.due("2: a method reference", code.contains("::"), false);
        CHECK.due("5: a static initialiser", has(code, "\\bstatic\\s*\\{"), false);
    }

    /** Rule 4 allows more; the class needs no more than the static functions of these three. */
    private static void library(String code) {
        Matcher calls = Pattern.compile("\\b([A-Z]\\w*)\\.(\\w+)").matcher(code);
        int found = 0;
        while (calls.find()) {
            found++;
            CHECK.due("4: " + calls.group(), LIBRARY.contains(calls.group(1)), true);
            CHECK.due("4: " + calls.group(), calls.group(2).endsWith("Exact"), false);
        }
        CHECK.due("4: the calls of the library are found", found > 0, true);
    }

    /** A method starts and ends at the same indentation, with its name's line and with a brace alone. */
    private static void lengths(String code) {
        Matcher methods = Pattern.compile("(?m)^( {4}| {8})\\S[^;=\n]*\\([^;]*?\\{\n(?s:.*?)\n\\1\\}$").matcher(code);
        int found = 0;
        while (methods.find()) {
            found++;
            long lines = methods.group().lines().count();
            CHECK.due("11: some sixty lines, not " + lines + ": " + methods.group().lines().findFirst().get(), lines <= 60, true);
        }
        CHECK.due("11: the methods are found", found >= 20, true);
    }

    /** Rule 12 asks for few objects; the class makes none but in constructors. */
    private static void objects(String code) {
        String constructor = "(?m)^( {4}public | {8})[A-Z]\\w*\\([^)]*\\) \\{\n(?s:.*?)\n {4,8}\\}$";
        CHECK.due("12: an object made outside a constructor", has(code.replaceAll(constructor, ""), "\\bnew\\b"), false);
        CHECK.due("12: what constructors make is found", has(code, "\\bnew\\b"), true);
    }

    private static List<Class<?>> classes() {
        List<Class<?>> all = new ArrayList<>(List.of(TaperedQuire.class));
        for (int i = 0; i < all.size(); i++) {
            all.addAll(List.of(all.get(i).getDeclaredClasses()));
        }
        return all;
    }

    private static void members(Class<?> c) {
        String at = c.getSimpleName() + ".";
        int fields = 0;
        for (Field f : c.getDeclaredFields()) {
            boolean isStatic = Modifier.isStatic(f.getModifiers());
            fields += isStatic ? 0 : 1;
            boolean isConstant = Modifier.isFinal(f.getModifiers()) && CONSTANTS.contains(f.getType());
            CHECK.due("5: " + at + f.getName(), !isStatic || isConstant, true);
        }
        CHECK.due("11: some twenty fields in " + at, fields <= 20, true);
        for (Method m : c.getDeclaredMethods()) {
            CHECK.due("11: at most seven parameters: " + at + m.getName(), m.getParameterCount() <= 7, true);
            boolean bearsItsName = c != TaperedQuire.class && isOfTheFace(m.getName());
            CHECK.due("1: a public one's name: " + at + m.getName(), bearsItsName, false);
        }
    }

    private static boolean isOfTheFace(String name) {
        for (Method m : TaperedQuire.class.getDeclaredMethods()) {
            if (Modifier.isPublic(m.getModifiers()) && m.getName().equals(name)) {
                return true;
            }
        }
        return false;
    }
}
