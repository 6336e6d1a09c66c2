import java.io.IOException;
import java.lang.reflect.Method;
import java.lang.reflect.Modifier;
import java.nio.file.Files;
import java.nio.file.Path;
import java.util.ArrayList;
import java.util.Comparator;
import java.util.List;
import java.util.Set;
import java.util.TreeSet;
import java.util.regex.Matcher;
import java.util.regex.Pattern;
import java.util.stream.Stream;

/** README.md: each call it shows answers what stands behind it, each command it tells works. */
public final class ReadmeTest extends Dues {
    private static final String MADE = "NamesByLot list = new NamesByLot();", ALL_TESTS = ".ci/run";
    private static final Pattern CALL = Pattern.compile("(list\\.(\\w+)\\(.*\\)); +// (-?\\d+)(?!\\d).*");
    private static final int CALLS_OF_AN_OBJECT = 512;

    public static void main(String[] args) throws Exception {
        List<String> readme = Files.readAllLines(Path.of("README.md"));
        Path place = placeOfItsOwn();
        try {
            callsAnswerAsShown(blocks(readme, "java"), place.resolve("main"));
            commandsWork(blocks(readme, "sh"), place.resolve("main"));
        } finally {
            remove(place);
        }
        testsAreNamed(String.join("\n", readme));
        end("README.md tells what is so");
    }

    /** The lines within the fences that bear this mark. */
    private static List<String> blocks(List<String> readme, String mark) {
        List<String> found = new ArrayList<>();
        String fence = "";
        for (String line : readme) {
            if (line.startsWith("```")) {
                fence = fence.isEmpty() ? line : "";
            } else if (fence.equals("```" + mark)) {
                found.add(line);
            }
        }
        return found;
    }

    /** A folder that looks to commands as this one does, so that what they write is not left here. */
    private static Path placeOfItsOwn() throws IOException {
        Path place = Files.createTempDirectory("readme");
        Path main = Files.createDirectory(place.resolve("main"));
        Files.createSymbolicLink(main.resolve("src"), Path.of("src").toRealPath());
        Files.createSymbolicLink(main.resolve(".ci"), Path.of(".ci").toRealPath());
        Files.createSymbolicLink(place.resolve("shared"), Path.of("../shared").toRealPath());
        return place;
    }

    /** The lines become a program of their own, so that they are compiled as they are written. */
    private static void callsAnswerAsShown(List<String> lines, Path folder) throws Exception {
        about("the calls that README.md shows");
        Set<String> shown = new TreeSet<>();
        StringBuilder program = new StringBuilder("final class Shown extends Dues {\n"
            + "    public static void main(String[] args) {\n"
            + "        about(\"README.md\");\n");
        int calls = 0;
        for (String line : lines) {
            Matcher call = CALL.matcher(line);
            if (call.matches()) {
                calls++;
                shown.add(call.group(2));
                program.append("        due(\"" + call.group(1) + "\", " + call.group(1) + ", " + call.group(3) + "L);\n");
            } else if (line.equals(MADE)) {
                program.append("        " + line + "\n");
            } else {
                due("a line", line, "a call with its answer");
            }
        }
        program.append("        end(\"the calls answer as shown\");\n    }\n}\n");
        due("too many calls of one object", Math.max(0, calls - CALLS_OF_AN_OBJECT), 0);
        due("the calls that are shown", shown.toString(), callsOfTheFace().toString());
        Files.writeString(folder.resolve("Shown.java"), program);
        due("the exit code of the calls", exitCode("javac -d shown -sourcepath src/main/java:src/test/support Shown.java"
            + " && java -cp shown Shown", folder), 0);
    }

    private static Set<String> callsOfTheFace() {
        Set<String> names = new TreeSet<>();
        for (Method method : NamesByLot.class.getDeclaredMethods()) {
            if (Modifier.isPublic(method.getModifiers())) {
                names.add(method.getName());
            }
        }
        return names;
    }

    private static void commandsWork(List<String> commands, Path folder) throws Exception {
        about("the commands that README.md tells");
        due("the one that runs all tests is told", commands.contains(ALL_TESTS) ? 1 : 0, 1);
        due("it can be run", Files.isExecutable(Path.of(ALL_TESTS)) ? 1 : 0, 1);
        for (String command : commands) {
            // All tests run this one, too, so it can't run all of them.
            if (!command.equals(ALL_TESTS)) {
                due(command, exitCode(command, folder), 0);
            }
        }
        due("commands", commands.size(), 3);
    }

    private static int exitCode(String command, Path folder) throws Exception {
        Path told = folder.resolve("told");
        Process process = new ProcessBuilder("sh", "-c", command).directory(folder.toFile())
            .redirectErrorStream(true).redirectOutput(told.toFile()).start();
        int code = process.waitFor();
        if (code != 0) {
            System.out.println(Files.readString(told));
        }
        return code;
    }

    private static void testsAreNamed(String readme) throws IOException {
        about("the tests that README.md names");
        Set<String> there = new TreeSet<>();
        try (Stream<Path> files = Files.list(Path.of("src/test/java"))) {
            files.forEach(file -> there.add(file.getFileName().toString().replace(".java", "")));
        }
        Set<String> named = new TreeSet<>();
        Matcher name = Pattern.compile("(?m)^- `(\\w+)`:").matcher(readme);
        while (name.find()) {
            named.add(name.group(1));
        }
        due("the list of tests", named.toString(), there.toString());
    }

    private static void remove(Path folder) throws IOException {
        try (Stream<Path> parts = Files.walk(folder)) {
            for (Path part : parts.sorted(Comparator.reverseOrder()).toList()) {
                Files.delete(part);
            }
        }
    }
}
