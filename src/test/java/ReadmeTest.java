import java.io.IOException;
import java.lang.reflect.Method;
import java.lang.reflect.Modifier;
import java.nio.charset.StandardCharsets;
import java.nio.file.Files;
import java.nio.file.Path;
import java.util.ArrayList;
import java.util.List;
import java.util.TreeSet;
import java.util.regex.Matcher;
import java.util.regex.Pattern;
import java.util.stream.Collectors;
import java.util.stream.Stream;

/** What README.md says: its commands are run as they stand, in a copy of the sources with its example beside them. */
public final class ReadmeTest {
    private static final Path TESTS = Path.of("src", "test", "java");
    private static final Path CLASS = Path.of("src", "main", "java", "StrideTurns.java");

    public static void main(String[] args) throws IOException, InterruptedException {
        String page = Files.readString(Path.of("README.md"));
        Path copy = Files.createTempDirectory("readme");
        try {
            layOut(copy, only(blocks(page, "java")));
            List<String> commands = blocks(page, "sh");
            Check.due("blocks of commands: of the example, of the tests", commands.size(), 2);
            example(run(copy, commands.get(0)), only(blocks(page, "text")));
            for (String command : commands.subList(1, commands.size())) {
                Check.holds("each test run tells that its answers are as due",
                        !run(copy, command).contains("not as due"));
            }
        } finally {
            remove(copy);
        }
        testsAreListed(page);
        callsAreListed(page);
        numbers(page);
        Check.end();
    }

    private static List<String> blocks(String page, String kind) {
        List<String> found = new ArrayList<>();
        Matcher block = Pattern.compile("^```" + kind + "\n(.*?)^```$", Pattern.MULTILINE | Pattern.DOTALL).matcher(page);
        while (block.find()) {
            found.add(block.group(1));
        }
        return found;
    }

    private static String only(List<String> blocks) {
        Check.due("one block of its kind", blocks.size(), 1);
        return blocks.isEmpty() ? "" : blocks.get(0);
    }

    private static void layOut(Path copy, String example) throws IOException {
        Files.createDirectories(copy.resolve(CLASS).getParent());
        Files.copy(CLASS, copy.resolve(CLASS));
        Files.createDirectories(copy.resolve(TESTS));
        for (String name : sources()) {
            Files.copy(TESTS.resolve(name), copy.resolve(TESTS).resolve(name));
        }
        Files.writeString(copy.resolve("Example.java"), example);
    }

    private static List<String> sources() throws IOException {
        try (Stream<Path> files = Files.list(TESTS)) {
            return files.map(file -> file.getFileName().toString()).sorted().collect(Collectors.toList());
        }
    }

    /** What the commands print; they stop at the first that fails. */
    private static String run(Path copy, String commands) throws IOException, InterruptedException {
        Process shell = new ProcessBuilder("sh", "-e", "-c", commands).directory(copy.toFile()).redirectErrorStream(true).start();
        shell.getOutputStream().close();
        String printed = new String(shell.getInputStream().readAllBytes(), StandardCharsets.UTF_8);
        boolean ended = shell.waitFor() == 0;
        Check.holds("these commands end well:\n" + commands + printed, ended);
        return printed;
    }

    private static void example(String printed, String told) {
        Check.holds("the example prints what the page tells:\n" + told + "but printed:\n" + printed, printed.equals(told));
        for (String line : told.split("\n")) {
            Matcher named = Pattern.compile(", (-?[0-9]+): (-?[0-9]+)$").matcher(line);
            Check.holds("the number that a line names is the one that is answered: " + line,
                    !named.find() || named.group(1).equals(named.group(2)));
        }
    }

    private static void testsAreListed(String page) throws IOException {
        TreeSet<String> listed = new TreeSet<>();
        Matcher name = Pattern.compile("`([A-Za-z]+Test)`").matcher(page);
        while (name.find()) {
            listed.add(name.group(1) + ".java");
        }
        TreeSet<String> there = new TreeSet<>();
        for (String source : sources()) {
            if (source.endsWith("Test.java")) {
                there.add(source);
            }
        }
        Check.holds("the tests are listed: " + there + ", not " + listed, listed.equals(there));
    }

    private static void callsAreListed(String page) {
        TreeSet<String> there = new TreeSet<>();
        for (Method method : StrideTurns.class.getDeclaredMethods()) {
            if (Modifier.isPublic(method.getModifiers())) {
                there.add(method.getName());
            }
        }
        TreeSet<String> listed = new TreeSet<>();
        Matcher row = Pattern.compile("^\\| ((?:`[a-z]+` )+)\\|", Pattern.MULTILINE).matcher(page);
        while (row.find()) {
            listed.addAll(List.of(row.group(1).replace("`", "").trim().split(" ")));
        }
        Check.holds("the calls are listed: " + there + ", not " + listed, listed.equals(there));
    }

    /** The operations, the refusals, the bits of cells, as the page tells them by number. */
    private static void numbers(String page) {
        Matcher operations = Pattern.compile("Operations by name: ((?:`[a-z]+` ?)+)").matcher(page);
        Check.holds("the operations are told", operations.find());
        String[] names = operations.group(1).replace("`", "").trim().split(" ");
        Check.due("operations", names.length, 13);
        for (int n = 0; n < names.length; n++) {
            Scene s = new Scene();
            Check.due(names[n], s.x.info(s.state(names[n], 1), 0), n);
        }
        refusals();
        eighths();
    }

    private static void refusals() {
        Scene s = new Scene().row(0, Scene.INTS, 3).row(1, Scene.SHORTS, 3);
        Check.due("-2: a number is not as told", s.x.row(6, 1, 1), -2);
        Check.due("-11: the row is missing", s.x.lose(2), -11);
        Check.due("-12: there is no such cell", s.x.put(0, 1, 3, 1), -12);
        Check.due("-13: it has another form", s.x.put(0, 2, 0, 1), -13);
        Check.due("-14: the rows are of unlike forms", s.x.copy(0, 0, 1, 0, 1), -14);
        Check.due("-15: a size below 0", s.x.row(0, 1, -1), -15);
        Check.due("count(8) tells the latest", s.x.count(8), 5);
        Check.due("reference", s.x.reference(0, 0, 0), Integer.MIN_VALUE);
        Check.due("section", s.x.section(0, 0, 0), Integer.MIN_VALUE);
        Check.due("meet", s.x.meet(0, 0, 0, 0, 0), Integer.MIN_VALUE);
        Check.due("kind", s.x.kind(0, 0, 0, 0), Integer.MIN_VALUE);
        Check.due("get: 2 more", s.x.get(6, 0), Long.MIN_VALUE + 2);
        Check.due("get: 11 more", s.x.get(2, 0), Long.MIN_VALUE + 11);
        Check.due("get: 12 more", s.x.get(0, 3), Long.MIN_VALUE + 12);
    }

    private static void eighths() {
        Scene s = new Scene().row(0, Scene.FLOATS, 1, -13).row(1, Scene.DOUBLES, 1, -13);
        Check.holds("a float is an eighth", Float.intBitsToFloat((int) s.x.get(0, 0)) == -1.625f);
        Check.holds("a double is an eighth", Double.longBitsToDouble(s.x.get(1, 0)) == -1.625);
    }

    private static void remove(Path copy) throws IOException {
        List<Path> all;
        try (Stream<Path> files = Files.walk(copy)) {
            all = files.collect(Collectors.toList());
        }
        for (int n = all.size() - 1; n >= 0; n--) {
            Files.delete(all.get(n));
        }
    }
}
