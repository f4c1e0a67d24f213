import java.io.File;
import java.io.IOException;
import java.nio.file.Files;
import java.nio.file.Path;
import java.util.ArrayList;
import java.util.Comparator;
import java.util.List;
import java.util.regex.Matcher;
import java.util.regex.Pattern;
import java.util.stream.Stream;

/** What README.md tells: its example is compiled and run as it says there, and answers what stands behind its calls. */
public final class ReadmeTest {
    private static final String PROGRAM = "src/main/java/WatchBeats.java";
    private static final Path TESTS = Path.of("src/test/java");
    private static final String CALL = "System.out.println(";
    private static final Pattern ANSWERED = Pattern.compile("System\\.out\\.println\\((.*)\\);\\s+// (-?\\d+)(:.*)?");

    public static void main(String[] args) throws IOException, InterruptedException {
        String readme = Files.readString(Path.of("README.md"));
        String example = block(readme, "java");
        List<String> calls = new ArrayList<>();
        List<String> told = new ArrayList<>();
        noteAnswersTold(example, calls, told);
        everyCallIsShown(example);
        answersAsTold(readme, example, calls, told);
        plainWatchAnswersAsTold(example, calls, told);
        callsTold(readme);
        everyTestIsNamed(readme);
        Check.end();
    }

    /** The first block of that kind in the text. */
    private static String block(String text, String kind) {
        Matcher block = Pattern.compile("(?s)```" + kind + "\n(.*?)```").matcher(text);
        boolean isThere = block.find();
        Check.holds("README.md has a block of " + kind, isThere);
        return isThere ? block.group(1) : "";
    }

    private static void noteAnswersTold(String example, List<String> calls, List<String> told) {
        for (String line : example.lines().map(String::trim).filter(one -> one.contains(CALL)).toList()) {
            Matcher answered = ANSWERED.matcher(line);
            boolean isTold = answered.matches();
            Check.holds("an answer stands behind " + line, isTold);
            calls.add(isTold ? answered.group(1) : line);
            told.add(isTold ? answered.group(2) : "");
        }
    }

    private static void everyCallIsShown(String example) {
        Stream.of(WatchBeats.class.getMethods()).filter(one -> one.getDeclaringClass() == WatchBeats.class)
            .forEach(one -> Check.holds(one.getName() + " is shown", example.contains("watch." + one.getName() + "(")));
    }

    private static void answersAsTold(String readme, String example, List<String> calls, List<String> told)
            throws IOException, InterruptedException {
        Path room = Files.createTempDirectory("readme");
        try {
            Files.createDirectories(room.resolve(PROGRAM).getParent());
            Files.copy(Path.of(PROGRAM), room.resolve(PROGRAM));
            Files.writeString(room.resolve("Example.java"), example);
            List<String> answered = List.of();
            for (String command : block(readme, "sh").lines().toList()) {
                answered = run(room, command.split(" "));
            }
            compare("WatchBeats", calls, told, answered);
        } finally {
            remove(room);
        }
    }

    /** What is told is what the document asks for, as it was read a second time. */
    private static void plainWatchAnswersAsTold(String example, List<String> calls, List<String> told)
            throws IOException, InterruptedException {
        Path room = Files.createTempDirectory("readme");
        try {
            Files.writeString(room.resolve("Example.java"), example.replace("WatchBeats", "PlainWatch"));
            String classes = Path.of(System.getProperty("java.class.path")).toAbsolutePath().toString();
            run(room, "javac", "-cp", classes, "-d", ".", "Example.java");
            compare("PlainWatch", calls, told, run(room, "java", "-cp", "." + File.pathSeparator + classes, "Example"));
        } finally {
            remove(room);
        }
    }

    private static List<String> run(Path room, String... command) throws IOException, InterruptedException {
        Path answers = room.resolve("answers");
        int ended = new ProcessBuilder(command).directory(room.toFile()).redirectErrorStream(true)
            .redirectOutput(answers.toFile()).start().waitFor();
        List<String> answered = Files.readAllLines(answers);
        Check.due(String.join(" ", command) + " " + (ended == 0 ? "" : answered), ended, 0);
        return answered;
    }

    private static void compare(String who, List<String> calls, List<String> told, List<String> answered) {
        Check.due("answers of " + who, answered.size(), told.size());
        for (int i = 0; i < told.size() && i < answered.size(); i++) {
            String call = who + ": " + calls.get(i) + " answered " + answered.get(i) + ", README.md tells " + told.get(i);
            Check.holds(call, answered.get(i).equals(told.get(i)));
        }
    }

    private static void remove(Path room) throws IOException {
        try (Stream<Path> all = Files.walk(room)) {
            for (Path one : all.sorted(Comparator.reverseOrder()).toList()) {
                Files.delete(one);
            }
        }
    }

    private static void callsTold(String readme) {
        Check.holds("for how many calls an object is used", readme.contains("used for at most 512 calls"));
    }

    private static void everyTestIsNamed(String readme) throws IOException {
        try (Stream<Path> files = Files.list(TESTS)) {
            for (String name : files.map(one -> one.getFileName().toString()).toList()) {
                boolean isNamed = readme.contains("| `" + name.replace(".java", "") + "` |");
                Check.holds(name + " is named", isNamed || !name.endsWith("Test.java"));
            }
        }
    }
}
