import java.util.ArrayList;
import java.util.HashMap;
import java.util.HashSet;
import java.util.List;
import java.util.Map;
import java.util.NoSuchElementException;
import java.util.Set;
import java.util.TreeMap;

/**
 * The document once more, told with the Java library and without thrift: everything is worked out
 * anew at each question. {@link ModelTest} compares its answers with those of Dotpress.
 */
final class Model {
    private record Rule(int grade, List<Integer> cells) {
    }

    private record Marked(int reader, int text, int word) {
    }

    private static final class Page {
        private String[] words = {};
        private int grade;
        private List<List<Integer>> embossed = List.of();
    }

    private String buffer = "";
    private final TreeMap<String, Rule> rules = new TreeMap<>();
    private final Set<String> exceptions = new HashSet<>();
    private final List<Page> pages = new ArrayList<>();
    private final Map<Marked, Character> marks = new HashMap<>();
    private final int[] strikes = new int[7];
    private int width = 20;
    private int bearing = 5000;

    public int type(char letter) {
        if (" abcdefghijklmnopqrstuvwxyz".indexOf(letter) < 0) {
            throw new IllegalArgumentException();
        }
        if (buffer.length() == 80) {
            throw new IllegalStateException();
        }
        buffer += letter;
        return buffer.length();
    }

    public int clear() {
        int before = buffer.length();
        buffer = "";
        return before;
    }

    public int addRule(int grade, int first, int second) {
        if (!areNumbers(grade, first, second) || !buffer.matches("[a-z]{1,4}")) {
            throw new IllegalArgumentException();
        }
        if (rules.size() == 40) {
            throw new IllegalStateException();
        }
        if (rules.containsKey(buffer)) {
            throw new UnsupportedOperationException();
        }
        String letters = buffer;
        change(() -> rules.put(letters, rule(grade, first, second)));
        return rules.headMap(letters).size();
    }

    public int mend(int grade, int first, int second) {
        if (!areNumbers(grade, first, second)) {
            throw new IllegalArgumentException();
        }
        if (!rules.containsKey(buffer)) {
            throw new NoSuchElementException();
        }
        String letters = buffer;
        return change(() -> rules.put(letters, rule(grade, first, second)));
    }

    public int removeRule(int place) {
        String letters = lettersAt(place);
        String kept = buffer;
        change(() -> rules.remove(letters));
        buffer = kept;
        return rules.size();
    }

    public char ruleAt(int place, int index) {
        String letters = lettersAt(place);
        if (index < 0 || index >= letters.length()) {
            throw new NoSuchElementException();
        }
        return letters.charAt(index);
    }

    public boolean turnException() {
        if (!buffer.matches("[a-z]+")) {
            throw new IllegalArgumentException();
        }
        String word = buffer;
        if (exceptions.contains(word)) {
            change(() -> exceptions.remove(word));
            return false;
        }
        if (exceptions.size() == 20) {
            throw new IllegalStateException();
        }
        change(() -> exceptions.add(word));
        return true;
    }

    public int setText(int text, int grade) {
        if (text < 0 || text > pages.size() || text == 6) {
            throw new IndexOutOfBoundsException();
        }
        if (grade != 1 && grade != 2) {
            throw new IllegalArgumentException();
        }
        if (text == pages.size()) {
            pages.add(new Page());
        }
        Page page = pages.get(text);
        page.words = buffer.isBlank() ? new String[0] : buffer.strip().split(" +");
        page.grade = grade;
        buffer = "";
        marks.keySet().removeIf(m -> m.text == text);
        return page.words.length;
    }

    public int setWidth(int width) {
        if (width < 8 || width > 40) {
            throw new IllegalArgumentException();
        }
        int before = this.width;
        this.width = width;
        return before;
    }

    public int words(int text) {
        return page(text).words.length;
    }

    public int length(int text, int word) {
        return cells(text, word).size();
    }

    public int cellOf(int text, int word, int index) {
        return element(cells(text, word), index);
    }

    public int lines(int text) {
        return laid(page(text), null).size();
    }

    public int lineAt(int text, int line, int column) {
        List<List<Integer>> lines = laid(page(text), null);
        if (line < 0 || line >= lines.size()) {
            throw new IndexOutOfBoundsException();
        }
        return element(lines.get(line), column);
    }

    public int lineOf(int text, int word) {
        cells(text, word);
        List<Integer> beginnings = new ArrayList<>();
        laid(page(text), beginnings);
        return beginnings.get(word);
    }

    public int emboss(int text) {
        Page page = page(text);
        List<List<Integer>> lines = laid(page, null);
        int[] after = strikes.clone();
        boolean isTooMuch = false;
        Set<Integer> pagesStruck = new HashSet<>();
        int count = 0;
        for (int i = 0; i < lines.size(); i++) {
            if (i < page.embossed.size() && page.embossed.get(i).equals(lines.get(i))) {
                continue;
            }
            count++;
            pagesStruck.add(i / 4);
            for (int cell : lines.get(i)) {
                for (int pin = 1; pin <= 6; pin++) {
                    if ((cell & 1 << (pin - 1)) != 0) {
                        after[pin]++;
                        isTooMuch |= after[pin] > bearing;
                    }
                }
            }
        }
        if (isTooMuch) {
            throw new IllegalStateException();
        }
        System.arraycopy(after, 0, strikes, 0, 7);
        page.embossed = lines;
        return 100 * pagesStruck.size() + count;
    }

    public int changed(int text) {
        Page page = page(text);
        List<List<Integer>> lines = laid(page, null);
        int same = 0;
        for (int i = 0; i < Math.min(lines.size(), page.embossed.size()); i++) {
            same += lines.get(i).equals(page.embossed.get(i)) ? 1 : 0;
        }
        return Math.max(lines.size(), page.embossed.size()) - same;
    }

    public int setBearing(int strikes) {
        if (strikes < 10 || strikes > 9999) {
            throw new IllegalArgumentException();
        }
        int before = bearing;
        bearing = strikes;
        return before;
    }

    public int replace(int pin) {
        int before = strikes(pin);
        strikes[pin] = 0;
        return before;
    }

    public int strikes(int pin) {
        if (pin < 1 || pin > 6) {
            throw new IndexOutOfBoundsException();
        }
        return strikes[pin];
    }

    public boolean mark(int reader, int text, int word, boolean isRight) {
        markOf(reader, text, word);
        marks.put(new Marked(reader, text, word), isRight ? 'r' : 'w');
        return markOf(0, text, word) == markOf(1, text, word);
    }

    public char markOf(int reader, int text, int word) {
        if (reader != 0 && reader != 1) {
            throw new IndexOutOfBoundsException();
        }
        cells(text, word);
        return marks.getOrDefault(new Marked(reader, text, word), '-');
    }

    public long checksum() {
        long sum = 0;
        for (Page page : pages) {
            for (List<Integer> line : laid(page, null)) {
                for (int cell : line) {
                    sum = sum * 31 + cell;
                }
            }
        }
        return sum;
    }

    public float provedShare() {
        int proved = 0;
        int all = 0;
        for (int text = 0; text < pages.size(); text++) {
            for (int word = 0; word < words(text); word++) {
                all++;
                boolean isProved = markOf(0, text, word) == 'r' && markOf(1, text, word) == 'r';
                proved += isProved ? 1 : 0;
            }
        }
        if (all == 0) {
            throw new ArithmeticException();
        }
        return (float) proved / all;
    }

    public double meanStrikes() {
        int sum = 0;
        for (int strike : strikes) {
            sum += strike;
        }
        return sum / 6.0;
    }

    public boolean isSound() {
        return true;
    }

    private static boolean areNumbers(int grade, int first, int second) {
        return (grade == 1 || grade == 2) && first > 0 && first < 64 && second >= 0 && second < 64;
    }

    private static Rule rule(int grade, int first, int second) {
        return new Rule(grade, second == 0 ? List.of(first) : List.of(first, second));
    }

    private static int element(List<Integer> list, int index) {
        if (index < 0 || index >= list.size()) {
            throw new NoSuchElementException();
        }
        return list.get(index);
    }

    private String lettersAt(int place) {
        if (place < 0 || place >= rules.size()) {
            throw new IndexOutOfBoundsException();
        }
        return new ArrayList<>(rules.keySet()).get(place);
    }

    private Page page(int text) {
        if (text < 0 || text >= pages.size()) {
            throw new IndexOutOfBoundsException();
        }
        return pages.get(text);
    }

    private List<Integer> cells(int text, int word) {
        Page page = page(text);
        if (word < 0 || word >= page.words.length) {
            throw new IndexOutOfBoundsException();
        }
        return translated(page.words[word], page.grade);
    }

    /** Changes the rules or exceptions; answers in how many texts a word has other cells then. */
    private int change(Runnable act) {
        List<List<List<Integer>>> before = allCells();
        act.run();
        buffer = "";
        List<List<List<Integer>>> after = allCells();
        marks.keySet().removeIf(m ->
                !before.get(m.text).get(m.word).equals(after.get(m.text).get(m.word)));
        int others = 0;
        for (int text = 0; text < pages.size(); text++) {
            others += before.get(text).equals(after.get(text)) ? 0 : 1;
        }
        return others;
    }

    private List<List<List<Integer>>> allCells() {
        List<List<List<Integer>>> all = new ArrayList<>();
        for (Page page : pages) {
            List<List<Integer>> cells = new ArrayList<>();
            for (String word : page.words) {
                cells.add(translated(word, page.grade));
            }
            all.add(cells);
        }
        return all;
    }

    private List<Integer> translated(String word, int grade) {
        List<Integer> cells = new ArrayList<>();
        String rest = word;
        while (!rest.isEmpty()) {
            String best = "";
            for (String letters : rules.keySet()) {
                boolean isAllowed = letters.length() == 1 || !exceptions.contains(word);
                if (isAllowed && rules.get(letters).grade <= grade && rest.startsWith(letters)
                        && letters.length() > best.length()) {
                    best = letters;
                }
            }
            cells.addAll(best.isEmpty() ? List.of(63) : rules.get(best).cells);
            rest = rest.substring(Math.max(1, best.length()));
        }
        return cells;
    }

    private List<List<Integer>> laid(Page page, List<Integer> beginnings) {
        List<List<Integer>> lines = new ArrayList<>();
        for (String word : page.words) {
            List<Integer> cells = translated(word, page.grade);
            List<Integer> last = lines.isEmpty() ? null : lines.get(lines.size() - 1);
            if (last != null && last.size() + 1 + cells.size() <= width) {
                last.add(0);
                last.addAll(cells);
                note(beginnings, lines.size() - 1);
                continue;
            }
            note(beginnings, lines.size());
            for (int from = 0; from < cells.size(); from += width) {
                int to = Math.min(from + width, cells.size());
                lines.add(new ArrayList<>(cells.subList(from, to)));
            }
        }
        return lines;
    }

    private static void note(List<Integer> beginnings, int line) {
        if (beginnings != null) {
            beginnings.add(line);
        }
    }
}
