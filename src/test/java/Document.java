import java.io.IOException;
import java.nio.file.Files;
import java.nio.file.Path;
import java.util.ArrayList;
import java.util.List;
import java.util.regex.Matcher;
import java.util.regex.Pattern;

/** The calls that ../shared/DOC.md tells, as its words are now. */
final class Document {
    /** A call: its head without what it throws, and each of its sentences "Throws ..". */
    record Told(int promise, String head, List<String> throwing) {
        String name() {
            return head.replaceAll("\\(.*", "").replaceAll(".* ", "");
        }
    }

    private static final Path FILE = Path.of("../shared/DOC.md");

    private Document() {
    }

    static List<String> lines() throws IOException {
        return Files.readAllLines(FILE);
    }

    /** The lines of "The public face" that tell a constructor or a method, without blanks round. */
    static List<String> face() throws IOException {
        List<String> face = new ArrayList<>();
        for (String line : lines()) {
            if (line.startsWith("    public ")) {
                face.add(line.strip());
            }
        }
        return face;
    }

    /** The promises' calls in their order, the constructor first. */
    static List<Told> calls() throws IOException {
        List<Told> calls = new ArrayList<>();
        int promise = 0;
        for (String line : lines()) {
            Matcher title = Pattern.compile("## Promise (\\d+): .*").matcher(line);
            Matcher head = Pattern.compile("`([^`]*?)( throws [^`]*)?`: .*").matcher(line);
            if (title.matches()) {
                promise = Integer.parseInt(title.group(1));
            } else if (promise > calls.size() && head.matches()) {
                calls.add(new Told(promise, head.group(1), new ArrayList<>()));
            } else if (promise > 0 && line.startsWith("Throws ")) {
                calls.get(promise - 1).throwing().add(line.substring("Throws ".length()));
            }
        }
        return calls;
    }
}
