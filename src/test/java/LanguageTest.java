import java.lang.reflect.Array;
import java.lang.reflect.Constructor;
import java.lang.reflect.Field;
import java.lang.reflect.Method;
import java.lang.reflect.Modifier;
import java.nio.file.Files;
import java.nio.file.Path;
import java.util.ArrayList;
import java.util.Arrays;
import java.util.HashSet;
import java.util.IdentityHashMap;
import java.util.List;
import java.util.Map;
import java.util.Set;
import java.util.TreeSet;
import java.util.regex.Matcher;
import java.util.regex.Pattern;

/** The public face of the class, and the rules of LANGUAGE.md that can be seen in its text. */
public final class LanguageTest {
    private static final Set<String> FACE = new TreeSet<>(List.of("addScene(int,int)", "cut(int)",
            "join(int)", "takeOut(int)", "putIn(int,int)", "move(int,int)", "tear(int,int,int)",
            "patch(int,int)", "splice(int)", "dislike(int,boolean)", "set(int,int)", "run()",
            "addWitness(int,int,int)", "type(char)", "clearText()", "edit()", "undo()", "keep()",
            "restore()", "scene(int,int)", "piece(int,int)", "canned(int,int)", "frameAt(int)",
            "frame(int,int,int)", "show(int,int)", "seen(int,int)", "witness(int,int)",
            "saw(int,int)", "differ(int,int)", "next(int)", "count(int)"));
    private static final String[] FORBIDDEN = {"\\bthrow\\b", "\\bthrows\\b", "\\btry\\b",
        "\\bcatch\\b", "\\bfinally\\b", "\\bsynchronized\\b", "\\bassert\\b", "\\bimport\\b",
        "\\bpackage\\b", "->", "::", "\\bequals\\b", "\\bhashCode\\b", "\\btoString\\b",
        "\\bvar\\b", "@", "\\bString\\b", "\\bwhile\\b", "Exact\\b", "\\bThread\\b",
        "\\bRandom\\b", "System\\.(?!arraycopy\\b)", "Math\\.(?!min\\b|max\\b)"};
    /** The first line of a method or a constructor, not of a statement. */
    private static final Pattern HEAD = Pattern.compile(
            "( {4,8})(?!(?:if|for|while|switch|return) )((\\w|\\[\\])+ )*\\w+\\(.*\\{");
    private static final int MOST_LINES = 60;
    private static final int MOST_ELEMENTS = 37500;
    private static final int MOST_OBJECTS = 350;

    private LanguageTest() {
    }

    public static void main(String[] args) throws Exception {
        face();
        constants();
        nested();
        words(Files.readString(Path.of("src/main/java/HoleReel.java")));
        List<Body> bodies = bodies(Files.readAllLines(Path.of("src/main/java/HoleReel.java")));
        lengths(bodies);
        room(bodies);
        Due.end();
    }

    private static void face() {
        Due.at("rule 1");
        Class<?> c = HoleReel.class;
        Due.due("the class is final", Modifier.isFinal(c.getModifiers()), true);
        Set<String> told = new TreeSet<>();
        Set<String> names = new HashSet<>();
        FACE.forEach(call -> names.add(call.substring(0, call.indexOf('('))));
        for (Method m : c.getDeclaredMethods()) {
            if (Modifier.isPrivate(m.getModifiers())) {
                Due.due("a private " + m.getName(), names.contains(m.getName()), false);
            } else {
                told.add(m.getName() + Arrays.toString(m.getParameterTypes()).replace('[', '(')
                        .replace(']', ')').replace(" ", ""));
                Due.due(m.getName() + " is public", Modifier.isPublic(m.getModifiers()), true);
                Due.due(m.getName() + " answers", m.getReturnType(), int.class);
            }
        }
        Due.due("the methods", told, FACE);
        Constructor<?>[] constructors = c.getDeclaredConstructors();
        Due.due("constructors", constructors.length, 1);
        Due.due("its parameters", constructors[0].getParameterCount(), 0);
        Due.due("it is public", Modifier.isPublic(constructors[0].getModifiers()), true);
    }

    private static void constants() throws IllegalAccessException {
        Due.at("the constants");
        Set<String> told = new TreeSet<>();
        for (Field f : HoleReel.class.getDeclaredFields()) {
            if (!Modifier.isPrivate(f.getModifiers())) {
                told.add(Modifier.toString(f.getModifiers()) + " " + f.getName() + " " + f.getInt(null));
            }
            boolean isConstant = Modifier.isStatic(f.getModifiers());
            Due.due(f.getName() + " is final", !isConstant || Modifier.isFinal(f.getModifiers()), true);
        }
        Set<String> want = new TreeSet<>();
        String[] names = {"UNKNOWN", "BAD_VALUE", "FULL", "NOT_POSSIBLE", "NONE"};
        for (int i = 0; i < names.length; i++) {
            want.add("public static final " + names[i] + " " + (-1 - i));
        }
        Due.due("constants", told, want);
    }

    private static void nested() {
        Due.at("rules 1, 2 and 11");
        Class<?>[] classes = HoleReel.class.getDeclaredClasses();
        Due.due("at most twelve classes", classes.length < 12, true);
        for (Class<?> c : classes) {
            Due.due(c + " is static", Modifier.isStatic(c.getModifiers()), true);
            Due.due(c + " is private", Modifier.isPrivate(c.getModifiers()), true);
            Due.due(c + " has few fields", c.getDeclaredFields().length <= 20, true);
        }
    }

    private static void words(String source) {
        Due.at("rules 3 to 6");
        String code = source.replaceAll("(?s)/\\*.*?\\*/", "").replaceAll("//.*", "");
        for (String word : FORBIDDEN) {
            Matcher matcher = Pattern.compile(word).matcher(code);
            Due.due("found " + word, matcher.find(), false);
        }
        Due.due("plain characters alone", source.chars().allMatch(c -> c == '\n' || c >= 32 && c < 127), true);
    }

    /** A method or a constructor, from its first line to its last one. */
    private record Body(List<String> lines, int from, int to) {
        boolean isConstructor() {
            return lines.get(from).matches(" *(\\w+ )?[A-Z]\\w*\\(.*");
        }

        boolean makesAnObject() {
            return lines.subList(from, to).stream().anyMatch(line -> line.matches(".*\\bnew\\b.*"));
        }
    }

    private static List<Body> bodies(List<String> lines) {
        List<Body> bodies = new ArrayList<>();
        for (int from = 0; from < lines.size(); from++) {
            Matcher head = HEAD.matcher(lines.get(from));
            if (head.matches()) {
                int to = from;
                while (!lines.get(to).equals(head.group(1) + "}")) {
                    to++;
                }
                bodies.add(new Body(lines, from, to));
                from = to;
            }
        }
        return bodies;
    }

    private static void lengths(List<Body> bodies) {
        Due.at("rule 11");
        int methods = 0;
        for (Class<?> c : HoleReel.class.getNestMembers()) {
            methods += c.getDeclaredMethods().length;
        }
        int constructors = (int) bodies.stream().filter(Body::isConstructor).count();
        Due.due("the methods that are found", bodies.size() - constructors, methods);
        for (Body body : bodies) {
            Due.due("the method at line " + (body.from + 1) + " is short", body.to - body.from < MOST_LINES, true);
        }
    }

    /** All runs of a test share one room, so that an object is small and its calls make no other. */
    private static void room(List<Body> bodies) throws IllegalAccessException {
        Due.at("rule 12");
        Map<Object, Boolean> found = new IdentityHashMap<>();
        int elements = elementsOf(new HoleReel(), found);
        Due.due(elements + " elements are few", elements <= MOST_ELEMENTS, true);
        Due.due(found.size() + " objects are few", found.size() <= MOST_OBJECTS, true);
        for (Body body : bodies) {
            boolean makes = !body.isConstructor() && body.makesAnObject();
            Due.due("a method makes an object at line " + (body.from + 1), makes, false);
        }
    }

    /** The fields and elements of an object and of all that it holds, each object once. */
    private static int elementsOf(Object object, Map<Object, Boolean> found) throws IllegalAccessException {
        if (object == null || found.put(object, true) != null) {
            return 0;
        }
        int elements = 0;
        if (object.getClass().isArray()) {
            elements += Array.getLength(object);
            for (int i = 0; object instanceof Object[] row && i < row.length; i++) {
                elements += elementsOf(row[i], found);
            }
            return elements;
        }
        for (Field field : object.getClass().getDeclaredFields()) {
            if (!Modifier.isStatic(field.getModifiers())) {
                field.setAccessible(true);
                elements++;
                elements += field.getType().isPrimitive() ? 0 : elementsOf(field.get(object), found);
            }
        }
        return elements;
    }
}
