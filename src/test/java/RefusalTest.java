import java.io.IOException;
import java.util.Map;
import java.util.NoSuchElementException;
import java.util.Set;
import java.util.TreeSet;

/**
 * Each sentence of the document that begins with "Throws", and that of several exceptions the one
 * documented first is thrown. Behind each refused call the house answers like one that was never
 * asked for it.
 */
final class RefusalTest {
    /** A call that the house is to refuse. */
    interface Refused {
        void on(Dotpress house);
    }

    private static final Class<IllegalArgumentException> ARGUMENT = IllegalArgumentException.class;
    private static final Class<IllegalStateException> STATE = IllegalStateException.class;
    private static final Class<IndexOutOfBoundsException> INDEX = IndexOutOfBoundsException.class;
    private static final Class<NoSuchElementException> ELEMENT = NoSuchElementException.class;
    private static final Class<UnsupportedOperationException> UNSUPPORTED =
            UnsupportedOperationException.class;
    private static final Class<ArithmeticException> ARITHMETIC = ArithmeticException.class;

    private static final int LEAST = Integer.MIN_VALUE;
    private static final int MOST = Integer.MAX_VALUE;
    private static final int[] NO_GRADES = {0, 3, -1, LEAST, MOST};
    private static final int[] NO_FIRST_CELLS = {0, 64, -1, LEAST, MOST};
    private static final int[] NO_SECOND_CELLS = {-1, 64, LEAST, MOST};
    private static final int[] NO_PINS = {0, 7, -1, LEAST, MOST};
    private static final int[] NO_READERS = {-1, 2, LEAST, MOST};
    private static final String FULL_BUFFER = "ab zab abcd a".repeat(7).substring(0, 80);

    private static final Map<String, Asked.Probe> PROBES = Asked.probes();
    private static final Set<String> TRIED = new TreeSet<>();

    public static void main(String[] args) throws IOException {
        typeRefusesOtherSigns();
        typeRefusesTheEightyFirst();
        typeTellsTheSignFirst();
        addRuleRefusesNumbers();
        addRuleRefusesLetters();
        addRuleRefusesTheFortyFirst();
        addRuleRefusesSameLetters();
        addRuleTellsArgumentsFirst();
        mendRefusesNumbers();
        mendRefusesLettersWithoutRule();
        removeRuleRefusesPlaces();
        ruleAtRefusesPlaces();
        ruleAtRefusesIndices();
        turnExceptionRefusesLetters();
        turnExceptionRefusesTheTwentyFirst();
        setTextRefusesNumbers();
        setTextRefusesGrades();
        setWidthRefusesWidths();
        textsAreRefused();
        wordsAreRefused();
        linesAreRefused();
        cellsAreRefused();
        columnsAreRefused();
        embossRefusesWornPins();
        setBearingRefusesNumbers();
        pinsAreRefused();
        readersAreRefused();
        provedShareNeedsWords();
        everySentenceWasTried();
        Check.end();
    }

    /** Tries the call on one house for each probe, for a probe may change its house. */
    private static void refuse(int promise, House house, String letters,
            Class<? extends RuntimeException> due, Refused call) {
        TRIED.add(promise + " " + due.getSimpleName());
        String what = "P" + promise + " " + house + " [" + letters + "]";
        for (Map.Entry<String, Asked.Probe> probe : PROBES.entrySet()) {
            Dotpress refusing = house.makeWith(letters);
            Dotpress calm = house.makeWith(letters);
            Check.refuses(what, due, () -> call.on(refusing));
            Check.same(what + ", then " + probe.getKey(),
                    probe.getValue().of(refusing), probe.getValue().of(calm));
        }
    }

    private static void refuse(int promise, House house,
            Class<? extends RuntimeException> due, Refused call) {
        refuse(promise, house, "ab", due, call);
    }

    private static int rulesOf(House house) {
        return switch (house) {
            case NEW, EXCEPTED -> 0;
            case WORN -> 2;
            case WORDLESS, USED -> 4;
            case RULED, FULL -> 40;
        };
    }

    private static int textsOf(House house) {
        return switch (house) {
            case NEW -> 0;
            case RULED, EXCEPTED -> 1;
            case WORDLESS, WORN -> 2;
            case USED -> 3;
            case FULL -> 6;
        };
    }

    // Promise 2

    private static void typeRefusesOtherSigns() {
        char[] signs = {'`', '{', 31, 33, 'A', 'Z', '0', 0, 9, 10, 127, 160, 228, 353, 65535};
        for (House house : House.values()) {
            for (char sign : signs) {
                refuse(2, house, ARGUMENT, h -> h.type(sign));
            }
            refuse(2, house, "", ARGUMENT, h -> h.type('-'));
        }
    }

    private static void typeRefusesTheEightyFirst() {
        for (House house : House.values()) {
            for (char sign : new char[] {'a', 'z', ' '}) {
                refuse(2, house, FULL_BUFFER, STATE, h -> h.type(sign));
            }
        }
        refuse(2, House.USED, " ".repeat(80), STATE, h -> h.type('a'));
        refuse(2, House.USED, "z".repeat(80), STATE, h -> h.type(' '));
    }

    private static void typeTellsTheSignFirst() {
        for (char sign : new char[] {'`', '{', 'A'}) {
            refuse(2, House.USED, FULL_BUFFER, ARGUMENT, h -> h.type(sign));
        }
    }

    // Promise 4

    private static void addRuleRefusesNumbers() {
        for (House house : new House[] {House.NEW, House.USED}) {
            for (int grade : NO_GRADES) {
                refuse(4, house, "ba", ARGUMENT, h -> h.addRule(grade, 1, 0));
            }
            for (int first : NO_FIRST_CELLS) {
                refuse(4, house, "ba", ARGUMENT, h -> h.addRule(1, first, 0));
                refuse(4, house, "ba", ARGUMENT, h -> h.addRule(2, first, 5));
            }
            for (int second : NO_SECOND_CELLS) {
                refuse(4, house, "ba", ARGUMENT, h -> h.addRule(1, 1, second));
            }
        }
    }

    private static void addRuleRefusesLetters() {
        String[] others =
            {"", "aaaaa", "abcda", FULL_BUFFER, " ", "a ", " a", "a b", "abc ", " abc", "    "};
        for (String letters : others) {
            refuse(4, House.NEW, letters, ARGUMENT, h -> h.addRule(1, 1, 0));
            refuse(4, House.USED, letters, ARGUMENT, h -> h.addRule(2, 63, 63));
        }
    }

    private static void addRuleRefusesTheFortyFirst() {
        for (String letters : new String[] {"aa", "zo", "zzzz", "bbbb"}) {
            refuse(4, House.FULL, letters, STATE, h -> h.addRule(1, 1, 0));
            refuse(4, House.RULED, letters, STATE, h -> h.addRule(1, 1, 0));
        }
    }

    private static void addRuleRefusesSameLetters() {
        for (String letters : new String[] {"a", "ab", "abcd", "b"}) {
            refuse(4, House.USED, letters, UNSUPPORTED, h -> h.addRule(1, 33, 44));
            refuse(4, House.USED, letters, UNSUPPORTED, h -> h.addRule(2, 33, 0));
        }
    }

    private static void addRuleTellsArgumentsFirst() {
        refuse(4, House.USED, "ab", ARGUMENT, h -> h.addRule(3, 1, 0));
        refuse(4, House.USED, "ab", ARGUMENT, h -> h.addRule(1, 64, 0));
        refuse(4, House.USED, "ab", ARGUMENT, h -> h.addRule(1, 1, 64));
        refuse(4, House.FULL, "aa", ARGUMENT, h -> h.addRule(0, 1, 0));
        refuse(4, House.FULL, "za", ARGUMENT, h -> h.addRule(1, 0, 0));
        refuse(4, House.FULL, "", ARGUMENT, h -> h.addRule(1, 1, 0));
        refuse(4, House.FULL, "aaaaa", ARGUMENT, h -> h.addRule(1, 1, 0));
        refuse(4, House.FULL, "a ", ARGUMENT, h -> h.addRule(1, 1, 0));
        refuse(4, House.FULL, "a", STATE, h -> h.addRule(1, 1, 0));
        refuse(4, House.FULL, "zn", STATE, h -> h.addRule(1, 1, 0));
    }

    // Promise 5

    private static void mendRefusesNumbers() {
        for (String letters : new String[] {"ab", "c", "", "a b", "abcde"}) {
            for (int grade : NO_GRADES) {
                refuse(5, House.USED, letters, ARGUMENT, h -> h.mend(grade, 1, 0));
            }
            for (int first : NO_FIRST_CELLS) {
                refuse(5, House.USED, letters, ARGUMENT, h -> h.mend(1, first, 0));
                refuse(5, House.USED, letters, ARGUMENT, h -> h.mend(2, first, 5));
            }
            for (int second : NO_SECOND_CELLS) {
                refuse(5, House.USED, letters, ARGUMENT, h -> h.mend(1, 1, second));
            }
        }
        refuse(5, House.NEW, "a", ARGUMENT, h -> h.mend(3, 1, 0));
        refuse(5, House.FULL, "a", ARGUMENT, h -> h.mend(1, 64, 0));
    }

    private static void mendRefusesLettersWithoutRule() {
        String[] others = {"", "c", "aa", "abc", "abce", "abcda", "aaaaa", " ", "a ", " a", "a b",
            FULL_BUFFER};
        for (String letters : others) {
            refuse(5, House.USED, letters, ELEMENT, h -> h.mend(1, 9, 0));
        }
        refuse(5, House.NEW, "a", ELEMENT, h -> h.mend(1, 9, 0));
        refuse(5, House.FULL, "zo", ELEMENT, h -> h.mend(1, 9, 0));
    }

    // Promises 6 and 7

    private static void removeRuleRefusesPlaces() {
        for (House house : House.values()) {
            for (int place : new int[] {-1, rulesOf(house), LEAST, MOST}) {
                refuse(6, house, INDEX, h -> h.removeRule(place));
            }
        }
    }

    private static void ruleAtRefusesPlaces() {
        for (House house : House.values()) {
            for (int place : new int[] {-1, rulesOf(house), LEAST, MOST}) {
                refuse(7, house, INDEX, h -> h.ruleAt(place, 0));
                refuse(7, house, INDEX, h -> h.ruleAt(place, -1));
                refuse(7, house, INDEX, h -> h.ruleAt(place, 4));
            }
        }
    }

    private static void ruleAtRefusesIndices() {
        int[] sizes = {1, 2, 4, 1};
        for (int i = 0; i < sizes.length; i++) {
            int place = i;
            for (int index : new int[] {-1, sizes[place], 4, LEAST, MOST}) {
                refuse(7, House.USED, ELEMENT, h -> h.ruleAt(place, index));
            }
        }
        refuse(7, House.FULL, ELEMENT, h -> h.ruleAt(0, 1));
        refuse(7, House.FULL, ELEMENT, h -> h.ruleAt(39, 2));
    }

    // Promise 8

    private static void turnExceptionRefusesLetters() {
        String[] others = {"", " ", "a ", " a", "a b", "abab ", " abab", FULL_BUFFER,
            "a".repeat(79) + " ", " ".repeat(80)};
        for (String letters : others) {
            refuse(8, House.USED, letters, ARGUMENT, h -> h.turnException());
        }
        refuse(8, House.NEW, "", ARGUMENT, h -> h.turnException());
        refuse(8, House.FULL, "", ARGUMENT, h -> h.turnException());
        refuse(8, House.FULL, "xa ", ARGUMENT, h -> h.turnException());
        refuse(8, House.FULL, " new", ARGUMENT, h -> h.turnException());
    }

    private static void turnExceptionRefusesTheTwentyFirst() {
        for (String letters : new String[] {"new", "x", "xu", "xaa", "zb", "z".repeat(80)}) {
            refuse(8, House.FULL, letters, STATE, h -> h.turnException());
            refuse(8, House.EXCEPTED, letters, STATE, h -> h.turnException());
        }
    }

    // Promises 9 and 10

    private static void setTextRefusesNumbers() {
        for (House house : House.values()) {
            int behind = house == House.FULL ? 6 : textsOf(house) + 1;
            for (int text : new int[] {-1, behind, 6, 7, LEAST, MOST}) {
                refuse(9, house, INDEX, h -> h.setText(text, 1));
                refuse(9, house, INDEX, h -> h.setText(text, 0));
                refuse(9, house, "", INDEX, h -> h.setText(text, 3));
            }
        }
    }

    private static void setTextRefusesGrades() {
        for (int grade : NO_GRADES) {
            refuse(9, House.NEW, ARGUMENT, h -> h.setText(0, grade));
            refuse(9, House.USED, ARGUMENT, h -> h.setText(0, grade));
            refuse(9, House.USED, ARGUMENT, h -> h.setText(2, grade));
            refuse(9, House.USED, ARGUMENT, h -> h.setText(3, grade));
            refuse(9, House.FULL, ARGUMENT, h -> h.setText(5, grade));
        }
    }

    private static void setWidthRefusesWidths() {
        for (House house : House.values()) {
            for (int width : new int[] {7, 41, 0, -8, LEAST, MOST}) {
                refuse(10, house, ARGUMENT, h -> h.setWidth(width));
            }
        }
    }

    // Promises 11 to 18, 22 and 23

    private static void textsAreRefused() {
        for (House house : House.values()) {
            for (int text : new int[] {-1, textsOf(house), 6, LEAST, MOST}) {
                refuse(11, house, INDEX, h -> h.words(text));
                refuse(12, house, INDEX, h -> h.length(text, 0));
                refuse(13, house, INDEX, h -> h.cellOf(text, 0, 0));
                refuse(13, house, INDEX, h -> h.cellOf(text, 0, -1));
                refuse(14, house, INDEX, h -> h.lines(text));
                refuse(15, house, INDEX, h -> h.lineAt(text, 0, 0));
                refuse(15, house, INDEX, h -> h.lineAt(text, 0, -1));
                refuse(16, house, INDEX, h -> h.lineOf(text, 0));
                refuse(17, house, INDEX, h -> h.emboss(text));
                refuse(18, house, INDEX, h -> h.changed(text));
                refuse(22, house, INDEX, h -> h.mark(0, text, 0, true));
                refuse(23, house, INDEX, h -> h.markOf(1, text, 0));
            }
        }
    }

    private static void wordsAreRefused() {
        int[] counts = {3, 6, 0};
        for (int i = 0; i < counts.length; i++) {
            int text = i;
            for (int word : new int[] {-1, counts[text], 40, LEAST, MOST}) {
                refuse(12, House.USED, INDEX, h -> h.length(text, word));
                refuse(13, House.USED, INDEX, h -> h.cellOf(text, word, 0));
                refuse(13, House.USED, INDEX, h -> h.cellOf(text, word, -1));
                refuse(13, House.USED, INDEX, h -> h.cellOf(text, word, 99));
                refuse(16, House.USED, INDEX, h -> h.lineOf(text, word));
                refuse(22, House.USED, INDEX, h -> h.mark(0, text, word, true));
                refuse(22, House.USED, INDEX, h -> h.mark(1, text, word, false));
                refuse(23, House.USED, INDEX, h -> h.markOf(1, text, word));
            }
        }
    }

    private static void linesAreRefused() {
        int[] counts = {1, 3, 0};
        for (int i = 0; i < counts.length; i++) {
            int text = i;
            Check.same("P14 lines of " + text, House.USED.make().lines(text), counts[text]);
            for (int line : new int[] {-1, counts[text], 60, LEAST, MOST}) {
                refuse(15, House.USED, INDEX, h -> h.lineAt(text, line, 0));
                refuse(15, House.USED, INDEX, h -> h.lineAt(text, line, -1));
                refuse(15, House.USED, INDEX, h -> h.lineAt(text, line, 9));
            }
        }
    }

    private static void cellsAreRefused() {
        for (int i = 0; i < 2; i++) {
            int text = i;
            for (int w = 0; w < House.USED.make().words(text); w++) {
                int word = w;
                int size = House.USED.make().length(text, word);
                for (int index : new int[] {-1, size, 160, LEAST, MOST}) {
                    refuse(13, House.USED, ELEMENT, h -> h.cellOf(text, word, index));
                }
            }
        }
    }

    private static void columnsAreRefused() {
        int[] sizes = {9, 9, 2};
        Check.same("P15 lines of text 1", Check.linesOf(House.USED.make(), 1),
                "2,3,0,1,6,7,1,6,7|6,7,0,4,4,4,0,63,63|6,7");
        for (int i = 0; i < sizes.length; i++) {
            int line = i;
            for (int column : new int[] {-1, sizes[line], 9, 40, LEAST, MOST}) {
                refuse(15, House.USED, ELEMENT, h -> h.lineAt(1, line, column));
            }
        }
    }

    private static void embossRefusesWornPins() {
        refuse(17, House.FULL, STATE, h -> h.emboss(1));
        refuse(17, House.WORN, STATE, h -> h.emboss(1));
    }

    // Promises 19 to 25

    private static void setBearingRefusesNumbers() {
        for (House house : House.values()) {
            for (int strikes : new int[] {9, 10000, 0, -10, LEAST, MOST}) {
                refuse(19, house, ARGUMENT, h -> h.setBearing(strikes));
            }
        }
    }

    private static void pinsAreRefused() {
        for (House house : House.values()) {
            for (int pin : NO_PINS) {
                refuse(20, house, INDEX, h -> h.replace(pin));
                refuse(21, house, INDEX, h -> h.strikes(pin));
            }
        }
    }

    private static void readersAreRefused() {
        for (int reader : NO_READERS) {
            refuse(22, House.USED, INDEX, h -> h.mark(reader, 0, 0, true));
            refuse(22, House.USED, INDEX, h -> h.mark(reader, 1, 1, false));
            refuse(23, House.USED, INDEX, h -> h.markOf(reader, 0, 0));
            refuse(22, House.NEW, INDEX, h -> h.mark(reader, 0, 0, true));
            refuse(23, House.NEW, INDEX, h -> h.markOf(reader, 0, 0));
        }
    }

    private static void provedShareNeedsWords() {
        refuse(25, House.NEW, ARITHMETIC, h -> h.provedShare());
        refuse(25, House.WORDLESS, ARITHMETIC, h -> h.provedShare());
    }

    /** The sentences as the document has them now, each by its promise and its exception. */
    private static void everySentenceWasTried() throws IOException {
        Set<String> due = new TreeSet<>();
        for (Document.Told told : Document.calls()) {
            for (String sentence : told.throwing()) {
                due.add(told.promise() + " " + sentence.replaceAll("`(\\w+)`.*", "$1"));
            }
        }
        Check.same("sentences tried", String.join(", ", TRIED), String.join(", ", due));
    }
}
