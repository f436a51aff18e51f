import java.io.IOException;
import java.lang.reflect.Field;
import java.lang.reflect.Method;
import java.lang.reflect.Modifier;
import java.nio.file.Files;
import java.nio.file.Path;
import java.util.ArrayList;
import java.util.Comparator;
import java.util.List;
import java.util.Map;
import java.util.TreeMap;
import java.util.regex.Matcher;
import java.util.regex.Pattern;
import java.util.stream.Stream;

/** README.md: what it says of using the class and of running its tests is so when it is followed. */
public final class ReadmeTest {
    private static final Path SHARED = Path.of("../shared").toAbsolutePath().normalize();
    /** The script that runs this test: it can't be followed from here. */
    private static final String ALL_TESTS = ".ci/run";

    private record Block(String language, String lines) {
    }

    private ReadmeTest() {
    }

    public static void main(String[] args) throws Exception {
        String readme = Files.readString(Path.of("README.md"));
        follow(blocks(readme));
        constants(readme);
        calls(readme, Files.readString(SHARED.resolve("DOC.md")));
        tests(readme);
        Due.end();
    }

    /** The blocks between fences, in their order. */
    private static List<Block> blocks(String readme) {
        List<Block> blocks = new ArrayList<>();
        Matcher matcher = Pattern.compile("(?ms)^```(\\w+)\n(.*?)^```$").matcher(readme);
        while (matcher.find()) {
            blocks.add(new Block(matcher.group(1), matcher.group(2)));
        }
        return blocks;
    }

    /** Gives the commands in a copy of the project that has ../shared too. */
    private static void follow(List<Block> blocks) throws Exception {
        Path folder = Files.createTempDirectory("readme");
        try {
            Files.createSymbolicLink(folder.resolve("shared"), SHARED);
            Path project = folder.resolve("project");
            copy(Path.of("src"), project.resolve("src"));
            int followed = 0;
            for (int i = 0; i < blocks.size(); i++) {
                Block block = blocks.get(i);
                if (block.language.equals("java")) {
                    Files.writeString(project.resolve("Example.java"), block.lines);
                } else if (block.language.equals("sh") && !block.lines.contains(ALL_TESTS)) {
                    boolean isTold = i + 1 < blocks.size() && blocks.get(i + 1).language.equals("text");
                    give(project, block.lines, isTold ? blocks.get(i + 1).lines : null);
                    followed++;
                }
            }
            Due.at("README.md");
            Due.due("blocks of commands", followed, 3);
        } finally {
            remove(folder);
        }
    }

    private static void give(Path project, String commands, String want) throws Exception {
        Due.at("README.md, in\n" + commands);
        Process process = new ProcessBuilder("sh", "-eu", "-c", commands).directory(project.toFile())
                .redirectErrorStream(true).start();
        String printed = new String(process.getInputStream().readAllBytes());
        int code = process.waitFor();
        if (want != null) {
            Due.due("it", printed, want);
        }
        Due.due("printing " + printed + " it", code, 0);
    }

    private static void copy(Path from, Path to) throws IOException {
        try (Stream<Path> paths = Files.walk(from)) {
            for (Path path : paths.toList()) {
                Path copy = to.resolve(from.relativize(path));
                Files.createDirectories(copy.getParent());
                Files.copy(path, copy);
            }
        }
    }

    private static void remove(Path folder) throws IOException {
        try (Stream<Path> paths = Files.walk(folder)) {
            for (Path path : paths.sorted(Comparator.reverseOrder()).toList()) {
                Files.delete(path);
            }
        }
    }

    private static void constants(String readme) throws IllegalAccessException {
        Due.at("README.md, constants");
        Map<String, Integer> told = new TreeMap<>();
        Matcher matcher = Pattern.compile("(?m)^\\| `([A-Z_]+)` \\| (-\\d+) \\|").matcher(readme);
        while (matcher.find()) {
            told.put(matcher.group(1), Integer.valueOf(matcher.group(2)));
        }
        Map<String, Integer> want = new TreeMap<>();
        for (Field field : HoleReel.class.getFields()) {
            want.put(field.getName(), field.getInt(null));
        }
        Due.due("the table", told, want);
    }

    /** Each call of the class with its parameters, marked if the document says that it is an act. */
    private static void calls(String readme, String document) {
        Due.at("README.md, calls");
        Map<String, String> told = new TreeMap<>();
        Matcher matcher = Pattern.compile("(?m)^\\| `(\\w+)\\((.*?)\\)`( \\*)? \\|").matcher(readme);
        while (matcher.find()) {
            int numbers = matcher.group(2).isEmpty() ? 0 : matcher.group(2).split(", ").length;
            told.put(matcher.group(1), numbers + (matcher.group(3) == null ? "" : " act"));
        }
        Map<String, String> want = new TreeMap<>();
        for (Method method : HoleReel.class.getDeclaredMethods()) {
            if (Modifier.isPublic(method.getModifiers())) {
                want.put(method.getName(), method.getParameterCount()
                        + (isAct(document, method.getName()) ? " act" : ""));
            }
        }
        Due.due("the table", told, want);
    }

    private static boolean isAct(String document, String name) {
        String promise = "(?ms)^## Promise \\d+: " + name + "$(.*?)(?=^## |\\z)";
        Matcher matcher = Pattern.compile(promise).matcher(document);
        return matcher.find() && matcher.group(1).matches("(?s).*This is (an|one) act\\..*");
    }

    private static void tests(String readme) throws IOException {
        Due.at("README.md, tests");
        try (Stream<Path> paths = Files.list(Path.of("src/test/java"))) {
            for (Path path : paths.toList()) {
                String name = path.getFileName().toString().replace(".java", "");
                Due.due(name + " is named", !name.endsWith("Test") || readme.contains("`" + name + "`"), true);
            }
        }
    }
}
