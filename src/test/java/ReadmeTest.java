import java.io.IOException;
import java.lang.reflect.InvocationTargetException;
import java.lang.reflect.Method;
import java.nio.file.Files;
import java.nio.file.Path;
import java.util.ArrayList;
import java.util.List;
import java.util.Set;
import java.util.TreeSet;
import java.util.regex.Matcher;
import java.util.regex.Pattern;
import java.util.stream.Collectors;
import java.util.stream.Stream;

/**
 * What README.md says: its example is run as it is written there, its rows of calls are compared
 * with the document's, and its tests and commands with those that are there.
 */
final class ReadmeTest {
    private static final Path TESTS = Path.of("src/test/java");
    private static final Path SCRIPT = Path.of(".ci/run");
    private static final Pattern CALL = Pattern.compile("house\\.(\\w+)\\(([^()]*)\\);");
    private static final Pattern COMMENT =
            Pattern.compile("// (answers|throws) ('.'|[-\\w.]+): \\S.*");

    public static void main(String[] args) throws IOException {
        List<String> page = Files.readAllLines(Path.of("README.md"));
        newHouseIsAsThePageSays(String.join(" ", page));
        exampleAnswersAsItSays(page);
        callsAreTheDocuments(page);
        testsAreAllThere(page);
        commandsFitTheScript(page);
        Check.end();
    }

    private static void newHouseIsAsThePageSays(String page) {
        String words = "the width (\\d+), and six new pins that bear (\\d+) strikes";
        Matcher said = Pattern.compile(words).matcher(page);
        Check.same("a new house is told", said.find(), true);
        Dotpress house = new Dotpress();
        Check.same("its width", house.setWidth(8), Integer.parseInt(said.group(1)));
        Check.same("its bearing", house.setBearing(10), Integer.parseInt(said.group(2)));
        Check.same("its pins", house.meanStrikes(), 0.0);
    }

    private static void exampleAnswersAsItSays(List<String> page) {
        int start = page.indexOf("```java");
        List<String> behind = page.subList(start + 1, page.size());
        List<String> example = behind.subList(0, behind.indexOf("```"));
        Check.same("it begins", example.get(0), "Dotpress house = new Dotpress();");
        Dotpress house = new Dotpress();
        for (String line : example.subList(1, example.size())) {
            runLine(house, line);
        }
    }

    /** Runs the calls of a line; what its comment says is said of the last one. */
    private static void runLine(Dotpress house, String line) {
        int end = line.contains("//") ? line.indexOf("//") : line.length();
        Matcher call = CALL.matcher(line.substring(0, end));
        String last = "no call";
        while (call.find()) {
            last = outcome(house, call.group(1), call.group(2));
        }
        Check.same("calls alone: " + line,
                CALL.matcher(line.substring(0, end)).replaceAll("").isBlank(), true);
        Matcher comment = COMMENT.matcher(line.substring(end));
        if (comment.matches()) {
            Check.same(line, last, comment.group(1) + " " + comment.group(2).replace("'", ""));
        } else {
            Check.same("no comment: " + line, line.substring(end), "");
        }
    }

    private static String outcome(Dotpress house, String name, String arguments) {
        String[] written = arguments.isEmpty() ? new String[0] : arguments.split(", ");
        for (Method method : Dotpress.class.getMethods()) {
            if (method.getName().equals(name) && method.getParameterCount() == written.length) {
                return outcome(house, method, written);
            }
        }
        return "there is no " + name;
    }

    private static String outcome(Dotpress house, Method method, String[] written) {
        Object[] given = new Object[written.length];
        for (int i = 0; i < given.length; i++) {
            given[i] = switch (method.getParameterTypes()[i].getName()) {
                case "char" -> written[i].charAt(1);
                case "boolean" -> Boolean.valueOf(written[i]);
                default -> Integer.valueOf(written[i]);
            };
        }
        try {
            return "answers " + method.invoke(house, given);
        } catch (InvocationTargetException thrown) {
            return "throws " + thrown.getCause().getClass().getSimpleName();
        } catch (IllegalAccessException closed) {
            return closed.toString();
        }
    }

    /** Each row tells the call, what it answers, and the document's sentences "Throws ..". */
    private static void callsAreTheDocuments(List<String> page) throws IOException {
        List<String> got = new ArrayList<>();
        for (String line : page) {
            Matcher row = Pattern.compile("\\| (`\\w+ \\w+\\(.*?\\)`) \\| (.*?) \\| (.*) \\|")
                    .matcher(line);
            if (row.matches()) {
                got.add(row.group(1) + " throws " + row.group(3));
                Check.same("an answer of " + row.group(1), row.group(2).length() > 9, true);
            }
        }
        List<String> due = new ArrayList<>();
        for (Document.Told told : Document.calls()) {
            String throwing = String.join("; ", told.throwing());
            if (told.promise() > 1) {
                due.add("`" + told.head() + "` throws " + (throwing.isEmpty() ? "-" : throwing));
            }
        }
        Check.same("rows of calls", String.join("\n", new TreeSet<>(got)),
                String.join("\n", new TreeSet<>(due)));
        Check.same("each call once", got.size(), 26);
    }

    private static void testsAreAllThere(List<String> page) throws IOException {
        Set<String> told = new TreeSet<>();
        for (String line : page) {
            Matcher row = Pattern.compile("\\| `(\\w+Test)` \\| .* \\|").matcher(line);
            if (row.matches()) {
                told.add(row.group(1));
            }
        }
        String whole = String.join("\n", page);
        Set<String> there = new TreeSet<>();
        try (Stream<Path> files = Files.list(TESTS)) {
            for (Path file : files.collect(Collectors.toList())) {
                String name = file.getFileName().toString().replace(".java", "");
                Check.same("a word on " + name, whole.contains("`" + name + "`"), true);
                if (name.endsWith("Test")) {
                    there.add(name);
                }
            }
        }
        Check.same("tests", String.join(", ", told), String.join(", ", there));
    }

    private static void commandsFitTheScript(List<String> page) throws IOException {
        String script = Files.readString(SCRIPT);
        Check.same("all tests", page.contains("    .ci/run"), true);
        Check.same("the script can be run", Files.isExecutable(SCRIPT), true);
        Check.same("own tests", script.contains("for test in src/test/java/*Test.java; do"), true);
        Check.same("shared tests", script.contains("for test in ../shared/tests/*.java; do"), true);
        List<String> places = new ArrayList<>();
        for (String line : page) {
            Matcher command = Pattern.compile(" {4}java -cp (\\S+) (\\w+)").matcher(line);
            if (command.matches()) {
                places.add(command.group(1));
                commandHasItsFiles(script, command.group(1), command.group(2));
            }
        }
        Check.same("commands for one test", places.size(), 2);
    }

    private static void commandHasItsFiles(String script, String places, String name) {
        if (places.startsWith("build/shared/")) {
            Check.same("place of " + name, places, "build/shared/" + name);
            Check.same("made by the script",
                    script.contains("java -cp \"build/shared/$name\" \"$name\""), true);
        } else {
            Check.same("places of " + name, places, "build/program:build/own");
            Check.same("made by the script", script.contains("program=build/program\n")
                    && script.contains("java -cp \"$program:build/own\" "), true);
            Check.same("a test " + name, Files.exists(TESTS.resolve(name + ".java")), true);
        }
    }
}
