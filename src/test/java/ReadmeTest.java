import java.io.IOException;
import java.lang.reflect.Method;
import java.lang.reflect.Modifier;
import java.nio.file.Files;
import java.nio.file.Path;
import java.util.ArrayList;
import java.util.List;
import java.util.regex.Matcher;
import java.util.regex.Pattern;

/** README.md: its program compiles and runs by its own commands and prints what it says; its tables are whole. */
public final class ReadmeTest {
    private static final Check check = new Check("ReadmeTest");
    private static final Path SOURCE = Path.of("src/main/java/CubeHeaps.java");

    public static void main(String[] args) throws IOException, InterruptedException {
        String readme = Files.readString(Path.of("README.md"));
        program(readme);
        constants(readme);
        calls(readme);
        tests(readme);
        check.end();
    }

    private static void program(String readme) throws IOException, InterruptedException {
        String program = between(readme, "```java\n", "```");
        Path room = Files.createTempDirectory("readme");
        try {
            Path copy = room.resolve(SOURCE);
            Files.createDirectories(copy.getParent());
            Files.copy(SOURCE, copy);
            Files.writeString(room.resolve("Towers.java"), program);
            String[] commands = between(readme, "and run that:\n\n", "\n\n").split("\n");
            check.due("commands of README.md", commands.length, 2);
            check.holds("nothing is printed by javac", run(room, commands[0]).isEmpty());
            List<String> got = run(room, commands[1]);
            List<String> due = printed(program);
            check.holds("the program prints " + due + ", it prints " + got, got.equals(due));
        } finally {
            remove(room);
        }
    }

    /** The numbers that the program's lines say they print. */
    private static List<String> printed(String program) {
        List<String> numbers = new ArrayList<>();
        for (String line : program.split("\n")) {
            if (!line.contains("println")) continue;
            Matcher number = Pattern.compile("// (-?\\d+): ").matcher(line);
            check.holds("it is said what this prints: " + line, number.find());
            numbers.add(number.group(1));
        }
        return numbers;
    }

    private static List<String> run(Path room, String command) throws IOException, InterruptedException {
        List<String> words = new ArrayList<>(List.of(command.trim().split(" ")));
        words.set(0, Path.of(System.getProperty("java.home"), "bin", words.get(0)).toString());
        Path printed = room.resolve("printed");
        Process process = new ProcessBuilder(words).directory(room.toFile())
            .redirectErrorStream(true).redirectOutput(printed.toFile()).start();
        check.due("exit code of " + command.trim(), process.waitFor(), 0);
        return Files.readAllLines(printed);
    }

    private static void remove(Path room) throws IOException {
        try (var all = Files.walk(room)) {
            for (Path path : all.sorted((one, other) -> other.compareTo(one)).toList()) Files.delete(path);
        }
    }

    private static void constants(String readme) {
        int[] numbers = {CubeHeaps.UNKNOWN, CubeHeaps.OUTSIDE, CubeHeaps.STATE, CubeHeaps.NONE};
        String[] names = {"UNKNOWN", "OUTSIDE", "STATE", "NONE"};
        for (int i = 0; i < names.length; i++) {
            check.holds(names[i] + " is told", readme.contains("| `" + names[i] + "` | " + numbers[i] + " |"));
        }
    }

    private static void calls(String readme) {
        String table = between(readme, "The calls, in the order of the document:\n", "## Tests");
        for (Method method : CubeHeaps.class.getDeclaredMethods()) {
            if (!Modifier.isPublic(method.getModifiers())) continue;
            check.holds(method.getName() + " is in the table", table.contains("`" + method.getName() + "`"));
        }
    }

    private static void tests(String readme) throws IOException {
        try (var files = Files.list(Path.of("src/test/java"))) {
            for (Path file : files.toList()) {
                String name = file.getFileName().toString().replace(".java", "");
                if (name.endsWith("Test")) check.holds(name + " is in the table", readme.contains("| " + name + " |"));
            }
        }
    }

    private static String between(String text, String start, String end) {
        int from = text.indexOf(start) + start.length();
        int to = text.indexOf(end, from);
        check.holds("README.md has " + start.trim(), from >= start.length() && to >= from);
        return text.substring(from, to);
    }
}
