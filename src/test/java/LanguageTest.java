import java.lang.reflect.Constructor;
import java.lang.reflect.Field;
import java.lang.reflect.Method;
import java.lang.reflect.Modifier;
import java.nio.file.Files;
import java.nio.file.Path;
import java.util.Arrays;
import java.util.HashSet;
import java.util.List;
import java.util.Set;
import java.util.TreeSet;
import java.util.regex.Matcher;
import java.util.regex.Pattern;

/** The public face of the class, and the rules of LANGUAGE.md that can be seen in its text. */
public final class LanguageTest {
    private static final Set<String> FACE = new TreeSet<>(List.of("addScene(int,int)", "cut(int)",
            "join(int)", "takeOut(int)", "putIn(int,int)", "move(int,int)", "tear(int,int,int)",
            "patch(int,int)", "splice(int)", "dislike(int,boolean)", "set(int,int)", "run()",
            "addWitness(int,int,int)", "type(char)", "clearText()", "edit()", "undo()", "keep()",
            "restore()", "scene(int,int)", "piece(int,int)", "canned(int,int)", "frameAt(int)",
            "frame(int,int,int)", "show(int,int)", "seen(int,int)", "witness(int,int)",
            "saw(int,int)", "differ(int,int)", "next(int)", "count(int)"));
    private static final String[] FORBIDDEN = {"\\bthrow\\b", "\\bthrows\\b", "\\btry\\b",
        "\\bcatch\\b", "\\bfinally\\b", "\\bsynchronized\\b", "\\bassert\\b", "\\bimport\\b",
        "\\bpackage\\b", "->", "::", "\\bequals\\b", "\\bhashCode\\b", "\\btoString\\b",
        "\\bvar\\b", "@", "\\bString\\b", "\\bwhile\\b", "Exact\\b", "\\bThread\\b",
        "\\bRandom\\b", "System\\.(?!arraycopy\\b)", "Math\\.(?!min\\b|max\\b)"};
    private static final int MOST_LINES = 60;

    private LanguageTest() {
    }

    public static void main(String[] args) throws Exception {
        face();
        constants();
        nested();
        words(Files.readString(Path.of("src/main/java/HoleReel.java")));
        lengths(Files.readAllLines(Path.of("src/main/java/HoleReel.java")));
        Due.end();
    }

    private static void face() {
        Due.at("rule 1");
        Class<?> c = HoleReel.class;
        Due.due("the class is final", Modifier.isFinal(c.getModifiers()), true);
        Set<String> told = new TreeSet<>();
        Set<String> names = new HashSet<>();
        FACE.forEach(call -> names.add(call.substring(0, call.indexOf('('))));
        for (Method m : c.getDeclaredMethods()) {
            if (Modifier.isPrivate(m.getModifiers())) {
                Due.due("a private " + m.getName(), names.contains(m.getName()), false);
            } else {
                told.add(m.getName() + Arrays.toString(m.getParameterTypes()).replace('[', '(')
                        .replace(']', ')').replace(" ", ""));
                Due.due(m.getName() + " is public", Modifier.isPublic(m.getModifiers()), true);
                Due.due(m.getName() + " answers", m.getReturnType(), int.class);
            }
        }
        Due.due("the methods", told, FACE);
        Constructor<?>[] constructors = c.getDeclaredConstructors();
        Due.due("constructors", constructors.length, 1);
        Due.due("its parameters", constructors[0].getParameterCount(), 0);
        Due.due("it is public", Modifier.isPublic(constructors[0].getModifiers()), true);
    }

    private static void constants() throws IllegalAccessException {
        Due.at("the constants");
        Set<String> told = new TreeSet<>();
        for (Field f : HoleReel.class.getDeclaredFields()) {
            if (!Modifier.isPrivate(f.getModifiers())) {
                told.add(Modifier.toString(f.getModifiers()) + " " + f.getName() + " " + f.getInt(null));
            }
            boolean isConstant = Modifier.isStatic(f.getModifiers());
            Due.due(f.getName() + " is final", !isConstant || Modifier.isFinal(f.getModifiers()), true);
        }
        Set<String> want = new TreeSet<>();
        String[] names = {"UNKNOWN", "BAD_VALUE", "FULL", "NOT_POSSIBLE", "NONE"};
        for (int i = 0; i < names.length; i++) {
            want.add("public static final " + names[i] + " " + (-1 - i));
        }
        Due.due("constants", told, want);
    }

    private static void nested() {
        Due.at("rules 1, 2 and 11");
        Class<?>[] classes = HoleReel.class.getDeclaredClasses();
        Due.due("at most twelve classes", classes.length < 12, true);
        for (Class<?> c : classes) {
            Due.due(c + " is static", Modifier.isStatic(c.getModifiers()), true);
            Due.due(c + " is private", Modifier.isPrivate(c.getModifiers()), true);
            Due.due(c + " has few fields", c.getDeclaredFields().length <= 20, true);
        }
    }

    private static void words(String source) {
        Due.at("rules 3 to 6");
        String code = source.replaceAll("(?s)/\\*.*?\\*/", "").replaceAll("//.*", "");
        for (String word : FORBIDDEN) {
            Matcher matcher = Pattern.compile(word).matcher(code);
            Due.due("found " + word, matcher.find(), false);
        }
        Due.due("plain characters alone", source.chars().allMatch(c -> c == '\n' || c >= 32 && c < 127), true);
    }

    private static void lengths(List<String> lines) {
        Due.at("rule 11");
        int began = 0;
        for (int i = 0; i < lines.size(); i++) {
            boolean isClass = lines.get(began).contains(" class ");
            if (lines.get(i).matches(" {4}(?: {4})?[A-Za-z].* \\{")) {
                began = i;
            } else if (lines.get(i).matches(" {4}(?: {4})?\\}") && !isClass) {
                Due.due("the method at line " + (began + 1) + " is short",
                        i - began < MOST_LINES, true);
            }
        }
    }
}
