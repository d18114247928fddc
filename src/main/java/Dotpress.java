import java.util.NoSuchElementException;

/**
 * A braille house: rules translate typed words into cells, texts are broken into lines, an
 * embosser strikes the lines that became others, and two readers mark the words.
 */
public final class Dotpress {
    private static final char BLANK = ' ';
    private static final char RIGHT = 'r';
    private static final char WRONG = 'w';
    private static final char UNMARKED = '-';
    private static final int NONE = -1;

    private static final int BUFFER_ROOM = 80;
    private static final int MOST_RULES = 40;
    private static final int MOST_EXCEPTIONS = 20;
    private static final int MOST_TEXTS = 6;
    private static final int RULE_LETTERS = 4;
    private static final int HIGHEST_GRADE = 2;
    private static final int HIGHEST_CELL = 63;
    private static final int BLANK_CELL = 0;
    private static final int UNRULED_CELL = 63;

    private static final int FIRST_WIDTH = 20;
    private static final int LEAST_WIDTH = 8;
    private static final int MOST_WIDTH = 40;
    private static final int PAGE_LINES = 4;

    private static final int PINS = 6;
    private static final int FIRST_BEARING = 5000;
    private static final int LEAST_BEARING = 10;
    private static final int MOST_BEARING = 9999;
    private static final int READERS = 2;

    // A full buffer has a blank between two words, so at most every second sign begins one.
    private static final int MOST_WORDS = BUFFER_ROOM / 2;
    // A rule gives at most two cells for a letter; a blank cell stands for a typed blank.
    private static final int MOST_CELLS = 2 * BUFFER_ROOM;
    // A word begins at most one line, and goes on in a further one for each 8 cells it has.
    private static final int MOST_LINES = MOST_WORDS + MOST_CELLS / LEAST_WIDTH;

    private final Row buffer = new Row(BUFFER_ROOM);
    private final RuleBook rules = new RuleBook();
    private final Embosser embosser = new Embosser();
    private final Text[] texts = new Text[MOST_TEXTS];
    private final Pieces freshCells = new Pieces(MOST_WORDS, MOST_CELLS);
    private int textCount = 0;
    private int width = FIRST_WIDTH;

    public Dotpress() {
    }

    public int type(char letter) throws IllegalArgumentException, IllegalStateException {
        if (letter != BLANK && (letter < 'a' || letter > 'z')) {
            throw new IllegalArgumentException("neither a letter nor a blank");
        }
        if (buffer.isFull()) {
            throw new IllegalStateException("the buffer is full");
        }
        buffer.add(letter);
        return buffer.count();
    }

    public int clear() {
        int before = buffer.count();
        buffer.empty();
        return before;
    }

    public int addRule(int grade, int first, int second)
            throws IllegalArgumentException, IllegalStateException, UnsupportedOperationException {
        int key = typedKey();
        if (!isRule(grade, first, second) || key == RuleBook.NO_KEY) {
            throw new IllegalArgumentException("not the numbers or the letters of a rule");
        }
        if (rules.isFull()) {
            throw new IllegalStateException("no room for another rule");
        }
        if (rules.placeOf(key) != NONE) {
            throw new UnsupportedOperationException("there is a rule for these letters");
        }
        int place = rules.insert(key, grade, first, second);
        buffer.empty();
        translateTexts();
        return place;
    }

    public int mend(int grade, int first, int second)
            throws IllegalArgumentException, NoSuchElementException {
        if (!isRule(grade, first, second)) {
            throw new IllegalArgumentException("not the numbers of a rule");
        }
        int place = rules.placeOf(typedKey());
        if (place == NONE) {
            throw new NoSuchElementException("no rule for these letters");
        }
        rules.alter(place, grade, first, second);
        buffer.empty();
        return translateTexts();
    }

    public int removeRule(int place) throws IndexOutOfBoundsException {
        if (!rules.hasPlace(place)) {
            throw new IndexOutOfBoundsException("no such rule");
        }
        rules.takeAway(place);
        translateTexts();
        return rules.count();
    }

    public char ruleAt(int place, int index)
            throws IndexOutOfBoundsException, NoSuchElementException {
        if (!rules.hasPlace(place)) {
            throw new IndexOutOfBoundsException("no such rule");
        }
        int letter = rules.letterAt(place, index);
        if (letter == NONE) {
            throw new NoSuchElementException("no such letter");
        }
        return (char) letter;
    }

    public boolean turnException() throws IllegalArgumentException, IllegalStateException {
        if (buffer.count() == 0 || buffer.placeOf(BLANK) != NONE) {
            throw new IllegalArgumentException("not one word");
        }
        int place = rules.placeOfException(buffer, 0, buffer.count());
        if (place == NONE && rules.isFullOfExceptions()) {
            throw new IllegalStateException("no room for another exception");
        }
        if (place == NONE) {
            rules.addException(buffer);
        } else {
            rules.dropException(place);
        }
        buffer.empty();
        translateTexts();
        return place == NONE;
    }

    public int setText(int text, int grade)
            throws IndexOutOfBoundsException, IllegalArgumentException {
        if (text < 0 || text > textCount || text >= texts.length) {
            throw new IndexOutOfBoundsException("neither a text nor the next new one");
        }
        if (!isGrade(grade)) {
            throw new IllegalArgumentException("no such grade");
        }
        Text typed = texts[text];
        if (typed == null) {
            typed = new Text();
            texts[text] = typed;
            textCount++;
        }
        typed.take(buffer, grade);
        typed.translate(rules, freshCells);
        typed.lay(width);
        buffer.empty();
        return typed.wordCount();
    }

    public int setWidth(int width) throws IllegalArgumentException {
        if (width < LEAST_WIDTH || width > MOST_WIDTH) {
            throw new IllegalArgumentException("no such width");
        }
        int before = this.width;
        this.width = width;
        for (Text text : texts) {
            if (text != null) {
                text.lay(width);
            }
        }
        return before;
    }

    public int words(int text) throws IndexOutOfBoundsException {
        return textNumbered(text).wordCount();
    }

    public int length(int text, int word) throws IndexOutOfBoundsException {
        return textWithWord(text, word).cellCount(word);
    }

    public int cellOf(int text, int word, int index)
            throws IndexOutOfBoundsException, NoSuchElementException {
        Text found = textWithWord(text, word);
        if (index < 0 || index >= found.cellCount(word)) {
            throw new NoSuchElementException("no such cell of the word");
        }
        return found.cellAt(word, index);
    }

    public int lines(int text) throws IndexOutOfBoundsException {
        return textNumbered(text).lineCount();
    }

    public int lineAt(int text, int line, int column)
            throws IndexOutOfBoundsException, NoSuchElementException {
        Text found = textNumbered(text);
        if (line < 0 || line >= found.lineCount()) {
            throw new IndexOutOfBoundsException("no such line");
        }
        if (column < 0 || column >= found.lineSize(line)) {
            throw new NoSuchElementException("no such cell of the line");
        }
        return found.laidCellAt(line, column);
    }

    public int lineOf(int text, int word) throws IndexOutOfBoundsException {
        return textWithWord(text, word).firstLineOf(word);
    }

    public int emboss(int text) throws IndexOutOfBoundsException, IllegalStateException {
        Text found = textNumbered(text);
        embosser.forgetPlan();
        int pages = 0;
        int embossed = 0;
        int lastPage = NONE;
        for (int line = 0; line < found.lineCount(); line++) {
            if (found.isOther(line)) {
                planLine(found, line);
                embossed++;
                int page = line / PAGE_LINES;
                pages += page == lastPage ? 0 : 1;
                lastPage = page;
            }
        }
        if (!embosser.bearsPlan()) {
            throw new IllegalStateException("a pin would be struck more than it bears");
        }
        embosser.strikePlan();
        found.keepAsEmbossed();
        return 100 * pages + embossed;
    }

    public int changed(int text) throws IndexOutOfBoundsException {
        return textNumbered(text).otherLineCount();
    }

    public int setBearing(int strikes) throws IllegalArgumentException {
        if (strikes < LEAST_BEARING || strikes > MOST_BEARING) {
            throw new IllegalArgumentException("no such bearing");
        }
        return embosser.changeBearing(strikes);
    }

    public int replace(int pin) throws IndexOutOfBoundsException {
        if (pin < 1 || pin > PINS) {
            throw new IndexOutOfBoundsException("no such pin");
        }
        return embosser.renewPin(pin);
    }

    public int strikes(int pin) throws IndexOutOfBoundsException {
        if (pin < 1 || pin > PINS) {
            throw new IndexOutOfBoundsException("no such pin");
        }
        return embosser.wearOf(pin);
    }

    public boolean mark(int reader, int text, int word, boolean isRight)
            throws IndexOutOfBoundsException {
        if (!isReader(reader)) {
            throw new IndexOutOfBoundsException("no such reader");
        }
        Text found = textWithWord(text, word);
        char sign = isRight ? RIGHT : WRONG;
        found.putMark(reader, word, sign);
        return found.markBy(1 - reader, word) == sign;
    }

    public char markOf(int reader, int text, int word) throws IndexOutOfBoundsException {
        if (!isReader(reader)) {
            throw new IndexOutOfBoundsException("no such reader");
        }
        return textWithWord(text, word).markBy(reader, word);
    }

    public long checksum() {
        long sum = 0;
        for (Text text : texts) {
            if (text != null) {
                sum = text.sumOnto(sum);
            }
        }
        return sum;
    }

    public float provedShare() throws ArithmeticException {
        int all = 0;
        int proved = 0;
        for (Text text : texts) {
            if (text != null) {
                all += text.wordCount();
                proved += text.provedCount();
            }
        }
        if (all == 0) {
            throw new ArithmeticException("no words");
        }
        return (float) proved / (float) all;
    }

    public double meanStrikes() {
        return (double) embosser.wearOfAll() / (double) PINS;
    }

    public boolean isSound() {
        for (Text text : texts) {
            if (text != null && !text.isWellLaid(width)) {
                return false;
            }
        }
        return rules.isInOrder();
    }

    private static boolean isGrade(int grade) {
        return grade >= 1 && grade <= HIGHEST_GRADE;
    }

    private static boolean isRule(int grade, int first, int second) {
        return isGrade(grade)
                && first >= 1 && first <= HIGHEST_CELL
                && second >= 0 && second <= HIGHEST_CELL;
    }

    private static boolean isReader(int reader) {
        return reader >= 0 && reader < READERS;
    }

    private int typedKey() {
        if (buffer.placeOf(BLANK) != NONE) {
            return RuleBook.NO_KEY;
        }
        return RuleBook.keyOf(buffer, 0, buffer.count());
    }

    private Text textNumbered(int text) {
        Text found = text < 0 || text >= texts.length ? null : texts[text];
        if (found == null) {
            throw new IndexOutOfBoundsException("no such text");
        }
        return found;
    }

    private Text textWithWord(int text, int word) {
        Text found = textNumbered(text);
        if (word < 0 || word >= found.wordCount()) {
            throw new IndexOutOfBoundsException("no such word");
        }
        return found;
    }

    /** Translates all texts by the rules as they are now; answers how many became others. */
    private int translateTexts() {
        int others = 0;
        for (Text text : texts) {
            if (text != null && text.translate(rules, freshCells)) {
                text.lay(width);
                others++;
            }
        }
        return others;
    }

    private void planLine(Text text, int line) {
        for (int column = 0; column < text.lineSize(line); column++) {
            embosser.planCell(text.laidCellAt(line, column));
        }
    }

    /** A row of numbers that grows up to its room; beside its numbers it reads 0. */
    private static final class Row {
        private final int[] numbers;
        private int count = 0;

        Row(int room) {
            numbers = new int[room < 0 ? 0 : room];
        }

        int count() {
            return count;
        }

        boolean isFull() {
            return count >= numbers.length;
        }

        int get(int index) {
            return index < 0 || index >= count ? 0 : numbers[index];
        }

        void set(int index, int number) {
            if (index >= 0 && index < count) {
                numbers[index] = number;
            }
        }

        void add(int number) {
            if (count < numbers.length) {
                numbers[count] = number;
                count++;
            }
        }

        void insert(int index, int number) {
            if (index >= 0 && index <= count && count < numbers.length) {
                System.arraycopy(numbers, index, numbers, index + 1, count - index);
                numbers[index] = number;
                count++;
            }
        }

        void remove(int index) {
            if (index >= 0 && index < count) {
                count--;
                System.arraycopy(numbers, index + 1, numbers, index, count - index);
            }
        }

        void empty() {
            count = 0;
        }

        /** The first index at which the number stands, or NONE. */
        int placeOf(int number) {
            for (int i = 0; i < count; i++) {
                if (get(i) == number) {
                    return i;
                }
            }
            return NONE;
        }

        void takeOver(Row other) {
            empty();
            for (int i = 0; i < other.count(); i++) {
                add(other.get(i));
            }
        }
    }

    /** A row of numbers that is cut into pieces, none of them empty: words, or lines. */
    private static final class Pieces {
        private final Row numbers;
        private final Row ends;

        Pieces(int pieceRoom, int room) {
            numbers = new Row(room);
            ends = new Row(pieceRoom);
        }

        Row uncut() {
            return numbers;
        }

        int count() {
            return ends.count();
        }

        int startOf(int piece) {
            return piece == 0 ? 0 : ends.get(piece - 1);
        }

        int endOf(int piece) {
            return ends.get(piece);
        }

        int sizeOf(int piece) {
            return endOf(piece) - startOf(piece);
        }

        int get(int piece, int index) {
            return numbers.get(startOf(piece) + index);
        }

        /** How many numbers stand behind the last cut. */
        int uncutSize() {
            return numbers.count() - startOf(count());
        }

        void add(int number) {
            numbers.add(number);
        }

        /** Makes a piece of the numbers behind the last cut, if there are any. */
        void cut() {
            if (uncutSize() > 0) {
                ends.add(numbers.count());
            }
        }

        void empty() {
            numbers.empty();
            ends.empty();
        }

        void drop(int piece) {
            int start = startOf(piece);
            int size = sizeOf(piece);
            for (int i = 0; i < size; i++) {
                numbers.remove(start);
            }
            ends.remove(piece);
            for (int later = piece; later < ends.count(); later++) {
                ends.set(later, ends.get(later) - size);
            }
        }

        /** Whether the piece has the numbers of the row from the start up to the end. */
        boolean isSame(int piece, Row row, int start, int end) {
            int ownStart = startOf(piece);
            if (ends.get(piece) - ownStart != end - start) {
                return false;
            }
            for (int i = 0; i < end - start; i++) {
                if (numbers.get(ownStart + i) != row.get(start + i)) {
                    return false;
                }
            }
            return true;
        }

        /** Whether both have a piece with this number, and these are the same. */
        boolean shares(int piece, Pieces other) {
            return piece < count() && piece < other.count()
                    && isSame(piece, other.numbers, other.startOf(piece), other.endOf(piece));
        }

        void takeOver(Pieces other) {
            numbers.takeOver(other.numbers);
            ends.takeOver(other.ends);
        }
    }

    /**
     * The rules in their order, and the exceptions. A rule's letters are kept as one number, its
     * key: five bits for each of four letters from 'a' = 1, and 0 behind the last one. The order
     * of the keys is that of a dictionary.
     */
    private static final class RuleBook {
        static final int NO_KEY = 0;
        private static final int LETTER_BITS = 5;
        private static final int LETTER_MASK = (1 << LETTER_BITS) - 1;

        private final Row keys = new Row(MOST_RULES);
        private final Row grades = new Row(MOST_RULES);
        private final Row firsts = new Row(MOST_RULES);
        private final Row seconds = new Row(MOST_RULES);
        private final Pieces exceptions =
                new Pieces(MOST_EXCEPTIONS, MOST_EXCEPTIONS * BUFFER_ROOM);

        /** The key of so many letters of the row, or NO_KEY if no rule can have so many. */
        static int keyOf(Row letters, int start, int size) {
            if (size < 1 || size > RULE_LETTERS) {
                return NO_KEY;
            }
            int key = 0;
            for (int i = 0; i < RULE_LETTERS; i++) {
                int letter = i < size ? letters.get(start + i) - 'a' + 1 : 0;
                key = (key << LETTER_BITS) | letter;
            }
            return key;
        }

        int count() {
            return keys.count();
        }

        boolean isFull() {
            return keys.isFull();
        }

        boolean hasPlace(int place) {
            return place >= 0 && place < keys.count();
        }

        int placeOf(int key) {
            return keys.placeOf(key);
        }

        int insert(int key, int grade, int first, int second) {
            int place = 0;
            for (int i = 0; i < keys.count(); i++) {
                if (keys.get(i) < key) {
                    place = i + 1;
                }
            }
            keys.insert(place, key);
            grades.insert(place, grade);
            firsts.insert(place, first);
            seconds.insert(place, second);
            return place;
        }

        void alter(int place, int grade, int first, int second) {
            grades.set(place, grade);
            firsts.set(place, first);
            seconds.set(place, second);
        }

        void takeAway(int place) {
            keys.remove(place);
            grades.remove(place);
            firsts.remove(place);
            seconds.remove(place);
        }

        /** The letter of a rule, or NONE. */
        int letterAt(int place, int index) {
            if (index < 0 || index >= RULE_LETTERS) {
                return NONE;
            }
            int behind = RULE_LETTERS - 1 - index;
            int letter = (keys.get(place) >> (behind * LETTER_BITS)) & LETTER_MASK;
            return letter == 0 ? NONE : 'a' + letter - 1;
        }

        boolean isInOrder() {
            for (int place = 1; place < keys.count(); place++) {
                if (keys.get(place - 1) >= keys.get(place)) {
                    return false;
                }
            }
            return true;
        }

        /** The number of the exception with the letters from the start up to the end, or NONE. */
        int placeOfException(Row letters, int start, int end) {
            for (int i = 0; i < exceptions.count(); i++) {
                if (exceptions.isSame(i, letters, start, end)) {
                    return i;
                }
            }
            return NONE;
        }

        boolean isFullOfExceptions() {
            return exceptions.count() >= MOST_EXCEPTIONS;
        }

        void addException(Row word) {
            for (int i = 0; i < word.count(); i++) {
                exceptions.add(word.get(i));
            }
            exceptions.cut();
        }

        void dropException(int place) {
            exceptions.drop(place);
        }

        /** Adds the cells of the word that has the letters from the start up to the end. */
        void translate(Row letters, int start, int end, int grade, Pieces into) {
            boolean isException = placeOfException(letters, start, end) != NONE;
            int mostLetters = isException ? 1 : RULE_LETTERS;
            int done = start;
            for (int at = start; at < end; at++) {
                if (at == done) {
                    int size = Math.min(mostLetters, end - at);
                    done += addCells(letters, at, size, grade, into);
                }
            }
        }

        /** Uses the longest rule of at most so many letters; answers how many it takes. */
        private int addCells(Row letters, int at, int mostLetters, int grade, Pieces into) {
            for (int size = mostLetters; size >= 1; size--) {
                int place = keys.placeOf(keyOf(letters, at, size));
                if (place != NONE && grades.get(place) <= grade) {
                    into.add(firsts.get(place));
                    if (seconds.get(place) != BLANK_CELL) {
                        into.add(seconds.get(place));
                    }
                    return size;
                }
            }
            into.add(UNRULED_CELL);
            return 1;
        }
    }

    /** A text: its words as typed, their cells and marks, its lines, and those embossed last. */
    private static final class Text {
        private final Pieces typed = new Pieces(MOST_WORDS, BUFFER_ROOM);
        private final Pieces cells = new Pieces(MOST_WORDS, MOST_CELLS);
        private final Row marks = new Row(READERS * MOST_WORDS);
        private final Pieces laid = new Pieces(MOST_LINES, MOST_CELLS);
        private final Row firstLines = new Row(MOST_WORDS);
        private final Pieces embossed = new Pieces(MOST_LINES, MOST_CELLS);
        private int grade = 1;

        /** Types the text anew; its cells and lines are old until it is translated and laid. */
        void take(Row buffer, int newGrade) {
            grade = newGrade;
            typed.empty();
            for (int i = 0; i < buffer.count(); i++) {
                if (buffer.get(i) == BLANK) {
                    typed.cut();
                } else {
                    typed.add(buffer.get(i));
                }
            }
            typed.cut();
            marks.empty();
            for (int i = 0; i < READERS * typed.count(); i++) {
                marks.add(UNMARKED);
            }
        }

        /** Translates the words; answers whether one has other cells, which loses its marks. */
        boolean translate(RuleBook rules, Pieces fresh) {
            boolean isOther = false;
            fresh.empty();
            for (int word = 0; word < typed.count(); word++) {
                rules.translate(
                        typed.uncut(), typed.startOf(word), typed.endOf(word), grade, fresh);
                fresh.cut();
                if (!fresh.shares(word, cells)) {
                    isOther = true;
                    unmark(word);
                }
            }
            cells.takeOver(fresh);
            return isOther;
        }

        void lay(int width) {
            laid.empty();
            firstLines.empty();
            for (int word = 0; word < cells.count(); word++) {
                beginWord(cells.sizeOf(word), width);
                firstLines.add(laid.count());
                for (int i = 0; i < cells.sizeOf(word); i++) {
                    if (laid.uncutSize() >= width) {
                        laid.cut();
                    }
                    laid.add(cells.get(word, i));
                }
            }
            laid.cut();
        }

        /** Puts a blank ahead of a word with room in the line, or ends the line. */
        private void beginWord(int size, int width) {
            int used = laid.uncutSize();
            if (used > 0 && used + 1 + size <= width) {
                laid.add(BLANK_CELL);
            } else {
                laid.cut();
            }
        }

        int wordCount() {
            return typed.count();
        }

        int cellCount(int word) {
            return cells.sizeOf(word);
        }

        int cellAt(int word, int index) {
            return cells.get(word, index);
        }

        int lineCount() {
            return laid.count();
        }

        int lineSize(int line) {
            return laid.sizeOf(line);
        }

        int laidCellAt(int line, int column) {
            return laid.get(line, column);
        }

        int firstLineOf(int word) {
            return firstLines.get(word);
        }

        /** Whether the line is not the same as that embossed last, or only one of them is there. */
        boolean isOther(int line) {
            return !laid.shares(line, embossed);
        }

        int otherLineCount() {
            int others = 0;
            for (int line = 0; line < Math.max(laid.count(), embossed.count()); line++) {
                others += isOther(line) ? 1 : 0;
            }
            return others;
        }

        void keepAsEmbossed() {
            embossed.takeOver(laid);
        }

        void putMark(int reader, int word, char sign) {
            marks.set(READERS * word + reader, sign);
        }

        char markBy(int reader, int word) {
            return (char) marks.get(READERS * word + reader);
        }

        private void unmark(int word) {
            for (int reader = 0; reader < READERS; reader++) {
                putMark(reader, word, UNMARKED);
            }
        }

        int provedCount() {
            int proved = 0;
            for (int word = 0; word < typed.count(); word++) {
                proved += markBy(0, word) == RIGHT && markBy(1, word) == RIGHT ? 1 : 0;
            }
            return proved;
        }

        long sumOnto(long sum) {
            Row all = laid.uncut();
            long onward = sum;
            for (int i = 0; i < all.count(); i++) {
                onward = 31 * onward + all.get(i);
            }
            return onward;
        }

        /** Whether the lines have the words' cells and blanks alone, and none is too wide. */
        boolean isWellLaid(int width) {
            for (int line = 0; line < laid.count(); line++) {
                if (laid.sizeOf(line) > width) {
                    return false;
                }
            }
            Row all = laid.uncut();
            int seen = 0;
            for (int i = 0; i < all.count(); i++) {
                if (all.get(i) != BLANK_CELL) {
                    if (all.get(i) != cells.uncut().get(seen)) {
                        return false;
                    }
                    seen++;
                }
            }
            return seen == cells.uncut().count();
        }
    }

    /** The pins with their wear, and the strikes that are planned before one is done. */
    private static final class Embosser {
        private final Row wear = new Row(PINS);
        private final Row plan = new Row(PINS);
        private int bearing = FIRST_BEARING;

        Embosser() {
            for (int i = 0; i < PINS; i++) {
                wear.add(0);
                plan.add(0);
            }
        }

        int changeBearing(int strikes) {
            int before = bearing;
            bearing = strikes;
            return before;
        }

        int wearOf(int pin) {
            return wear.get(pin - 1);
        }

        int renewPin(int pin) {
            int before = wearOf(pin);
            wear.set(pin - 1, 0);
            return before;
        }

        int wearOfAll() {
            int sum = 0;
            for (int i = 0; i < PINS; i++) {
                sum += wear.get(i);
            }
            return sum;
        }

        void forgetPlan() {
            for (int i = 0; i < PINS; i++) {
                plan.set(i, 0);
            }
        }

        void planCell(int cell) {
            for (int i = 0; i < PINS; i++) {
                plan.set(i, plan.get(i) + ((cell >> i) & 1));
            }
        }

        /** A pin that is not struck may be worn beyond the bearing, which can be set lower. */
        boolean bearsPlan() {
            for (int i = 0; i < PINS; i++) {
                if (plan.get(i) > 0 && wear.get(i) + plan.get(i) > bearing) {
                    return false;
                }
            }
            return true;
        }

        void strikePlan() {
            for (int i = 0; i < PINS; i++) {
                wear.set(i, wear.get(i) + plan.get(i));
            }
        }
    }
}
