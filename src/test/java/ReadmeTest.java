import java.io.IOException;
import java.lang.reflect.Method;
import java.lang.reflect.Modifier;
import java.nio.charset.StandardCharsets;
import java.nio.file.Files;
import java.nio.file.Path;
import java.util.ArrayList;
import java.util.List;
import java.util.Set;
import java.util.TreeSet;
import java.util.regex.Matcher;
import java.util.regex.Pattern;
import java.util.stream.Stream;

/** What README.md says holds: its program answers as it says, its commands run, its lists leave nothing out. */
public final class ReadmeTest {
    private static final Check CHECK = new Check();
    private static final Pattern BLOCK = Pattern.compile("(?s)```(\\w+)\n(.*?)```");
    private static final Pattern SHOWN = Pattern.compile("(?m)show\\(.*\\);\\s*// ([^:]+): ");

    private final String readme;
    private final Path place;

    private ReadmeTest() throws IOException {
        readme = Files.readString(Path.of("README.md"));
        place = Files.createTempDirectory("readme");
    }

    private static List<String> found(Pattern pattern, int group, String text) {
        List<String> found = new ArrayList<>();
        Matcher matcher = pattern.matcher(text);
        while (matcher.find()) {
            found.add(matcher.group(group));
        }
        return found;
    }

    private List<String> blocks(String kind) {
        List<String> blocks = new ArrayList<>();
        Matcher matcher = BLOCK.matcher(readme);
        while (matcher.find()) {
            if (matcher.group(1).equals(kind)) {
                blocks.add(matcher.group(2));
            }
        }
        return blocks;
    }

    // ---- The program and the commands, in a directory of their own ----

    private void copySources() throws IOException {
        try (Stream<Path> files = Files.walk(Path.of("src"))) {
            for (Path file : (Iterable<Path>) files::iterator) {
                Path to = place.resolve(file);
                if (Files.isDirectory(file)) {
                    Files.createDirectories(to);
                } else {
                    Files.copy(file, to);
                }
            }
        }
    }

    /** What a command prints; a command that fails is told. */
    private List<String> run(String command) throws IOException, InterruptedException {
        Process process = new ProcessBuilder("sh", "-c", command).directory(place.toFile()).redirectErrorStream(true).start();
        String printed = new String(process.getInputStream().readAllBytes(), StandardCharsets.ISO_8859_1);
        int code = process.waitFor();
        CHECK.holds(command + " ends with " + code + ": " + printed, code == 0);
        return List.of(printed.split("\n"));
    }

    private List<String> runBlock(String block) throws IOException, InterruptedException {
        List<String> printed = List.of();
        for (String command : block.trim().split("\n")) {
            printed = run(command);
        }
        return printed;
    }

    private void theProgram() throws IOException, InterruptedException {
        List<String> programs = blocks("java");
        CHECK.due("programs", 1, programs::size);
        Files.writeString(place.resolve("Example.java"), programs.get(0));
        List<String> due = found(SHOWN, 1, programs.get(0));
        CHECK.holds("the program shows much", due.size() > 20);
        List<String> printed = runBlock(blocks("sh").get(0));
        CHECK.holds("each answer has its comment", due.size() == printed.size());
        for (int i = 0; i < Math.min(due.size(), printed.size()); i++) {
            CHECK.holds("answer " + i + " is " + printed.get(i) + ", README.md says " + due.get(i),
                    due.get(i).equals(printed.get(i)));
        }
    }

    private void theTests() throws IOException, InterruptedException {
        CHECK.holds("the command that runs all tests", blocks("sh").get(1).trim().equals(".ci/run"));
        CHECK.holds("it can be run", Files.isExecutable(Path.of(".ci", "run")));
        CHECK.holds("one test alone", runBlock(blocks("sh").get(2)).contains("all answers are as due"));
    }

    // ---- The lists ----

    private static void alike(String name, Set<String> due, Set<String> said) {
        for (String one : due) {
            CHECK.holds(name + ": README.md has " + one, said.contains(one));
        }
        for (String one : said) {
            CHECK.holds(name + ": there is " + one, due.contains(one));
        }
    }

    private static String shown(String name, int parameters) {
        return name + " of " + parameters;
    }

    private void theCalls() {
        Set<String> due = new TreeSet<>();
        for (Method method : MeerDrawers.class.getDeclaredMethods()) {
            if (Modifier.isPublic(method.getModifiers())) {
                due.add(shown(method.getName(), method.getParameterCount()));
            }
        }
        Set<String> said = new TreeSet<>();
        Matcher matcher = Pattern.compile("(?m)^\\| `(\\w+)\\((.*?)\\)` \\|").matcher(readme);
        while (matcher.find()) {
            said.add(shown(matcher.group(1), matcher.group(2).isEmpty() ? 0 : matcher.group(2).split(",").length));
        }
        alike("calls", due, said);
    }

    private void theTestsAreListed() throws IOException {
        Set<String> due = new TreeSet<>();
        try (Stream<Path> files = Files.list(Path.of("src", "test", "java"))) {
            files.map(file -> file.getFileName().toString()).filter(name -> name.endsWith("Test.java"))
                    .forEach(name -> due.add(name.replace(".java", "")));
        }
        alike("tests", due, new TreeSet<>(found(Pattern.compile("(?m)^- `(\\w+Test)`"), 1, readme)));
    }

    /** Each line that the text's list shows is one that the class takes. */
    private void theLinesOfTexts() {
        String list = readme.substring(readme.indexOf("### The text"), readme.indexOf("### The calls"));
        List<String> lines = found(Pattern.compile("`([a-z][^`]*;)`"), 1, list);
        CHECK.holds("lines are shown", lines.size() >= 8);
        for (String line : lines) {
            CHECK.fine("clerk;" + line);
        }
    }

    private void clear() throws IOException {
        List<Path> all = new ArrayList<>();
        try (Stream<Path> files = Files.walk(place)) {
            files.forEach(all::add);
        }
        for (int i = all.size() - 1; i >= 0; i--) {
            Files.delete(all.get(i));
        }
    }

    public static void main(String[] args) throws IOException, InterruptedException {
        ReadmeTest test = new ReadmeTest();
        test.copySources();
        test.theProgram();
        test.theTests();
        test.theCalls();
        test.theTestsAreListed();
        test.theLinesOfTexts();
        test.clear();
        CHECK.end();
    }
}
