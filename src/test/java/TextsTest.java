import java.util.NoSuchElementException;

/** Promises 9 to 16: texts, their words and cells, and their lines. */
final class TextsTest {
    private static final int[] FAR = {-1, Integer.MIN_VALUE, Integer.MAX_VALUE};

    public static void main(String[] args) {
        setTextCountsWords();
        setTextTakesNextNumber();
        setTextStopsAtSix();
        setTextTypesAnew();
        setWidthTakesItsRange();
        wordsAreRowsOfLetters();
        cellsComeByLongestRule();
        gradesLimitRules();
        cellsHaveIndices();
        linesBreakAtWidth();
        linesBreakAtEveryWidth();
        longWordsFillLines();
        blanksAreOneCell();
        lineCellsHaveColumns();
        lineOfTellsBeginnings();
        Check.end();
    }

    private static void setTextCountsWords() {
        Dotpress house = new Dotpress();
        Check.same("P9 no words", Check.setText(house, 0, 1, ""), 0);
        Check.same("P9 blanks", Check.setText(house, 0, 1, "   "), 0);
        Check.same("P9 one word", Check.setText(house, 0, 1, "abc"), 1);
        Check.same("P9 blanks round", Check.setText(house, 0, 1, "  a   b  "), 2);
        Check.same("P9 buffer is empty then", house.clear(), 0);
        Check.same("P9 40 words", Check.setText(house, 0, 1, "a ".repeat(40)), 40);
        Check.same("P11 40 words", house.words(0), 40);
        Check.same("P9 40 words from a blank", Check.setText(house, 0, 1, " a".repeat(40)), 40);
        Check.same("P12 the last word", house.length(0, 39), 1);
    }

    private static void setTextTakesNextNumber() {
        Dotpress house = new Dotpress();
        Check.typeAll(house, "ab");
        for (int text : new int[] {-1, 1, 6, Integer.MIN_VALUE, Integer.MAX_VALUE}) {
            Check.refuses("P9 text " + text, IndexOutOfBoundsException.class,
                    () -> house.setText(text, 1));
            Check.refuses("P9 text ahead of grade " + text, IndexOutOfBoundsException.class,
                    () -> house.setText(text, 0));
        }
        for (int grade : new int[] {0, 3, -1, Integer.MIN_VALUE, Integer.MAX_VALUE}) {
            Check.refuses("P9 grade " + grade, IllegalArgumentException.class,
                    () -> house.setText(0, grade));
        }
        Check.refuses("P9 none was made", IndexOutOfBoundsException.class, () -> house.words(0));
        Check.same("P9 the letters stay", house.setText(0, 2), 1);
        Check.refuses("P9 only one was made", IndexOutOfBoundsException.class,
                () -> house.words(1));
        Check.refuses("P9 beyond the next", IndexOutOfBoundsException.class,
                () -> house.setText(2, 1));
        Check.same("P9 the next", house.setText(1, 1), 0);
    }

    private static void setTextStopsAtSix() {
        Dotpress house = new Dotpress();
        for (int text = 0; text < 6; text++) {
            Check.same("P9 new", Check.setText(house, text, 1 + text % 2, "a b"), 2);
        }
        Check.refuses("P9 a seventh", IndexOutOfBoundsException.class, () -> house.setText(6, 1));
        Check.refuses("P9 an eighth", IndexOutOfBoundsException.class, () -> house.setText(7, 3));
        Check.refuses("P11 a seventh", IndexOutOfBoundsException.class, () -> house.words(6));
        Check.same("P9 the sixth anew", Check.setText(house, 5, 1, "a"), 1);
        Check.same("P9 the first stays", house.words(0), 2);
    }

    private static void setTextTypesAnew() {
        Dotpress house = new Dotpress();
        Check.addRule(house, "a", 2, 1, 0);
        Check.setText(house, 0, 1, "a aa aaa");
        Check.setText(house, 1, 1, "a");
        Check.setText(house, 0, 2, "aa");
        Check.same("P9 anew", Check.linesOf(house, 0), "1,1");
        Check.same("P9 the other stays", Check.linesOf(house, 1), "63");
        Check.refuses("P9 no word more", IndexOutOfBoundsException.class, () -> house.length(0, 1));
        Check.typeAll(house, "a");
        Check.refuses("P9 grade 3", IllegalArgumentException.class, () -> house.setText(0, 3));
        Check.same("P9 nothing changed", Check.linesOf(house, 0), "1,1");
        house.clear();
        house.setText(0, 2);
        Check.same("P9 anew without words", house.words(0), 0);
        Check.same("P14 without words", house.lines(0), 0);
    }

    private static void setWidthTakesItsRange() {
        Dotpress house = new Dotpress();
        Check.same("P10 first", house.setWidth(8), 20);
        for (int width : new int[] {7, 41, 0, -8, Integer.MIN_VALUE, Integer.MAX_VALUE}) {
            Check.refuses("P10 " + width, IllegalArgumentException.class,
                    () -> house.setWidth(width));
        }
        Check.same("P10 lowest", house.setWidth(40), 8);
        Check.same("P10 highest", house.setWidth(40), 40);
        Check.same("P10 the same", house.setWidth(21), 40);
    }

    private static void wordsAreRowsOfLetters() {
        Dotpress house = new Dotpress();
        Check.refuses("P11 none", IndexOutOfBoundsException.class, () -> house.words(0));
        Check.setText(house, 0, 1, "ab  c d");
        Check.same("P11 three", house.words(0), 3);
        Check.same("P12 first", house.length(0, 0), 2);
        Check.same("P12 last", house.length(0, 2), 1);
        Check.refuses("P12 behind", IndexOutOfBoundsException.class, () -> house.length(0, 3));
        Check.refuses("P12 no text", IndexOutOfBoundsException.class, () -> house.length(1, 0));
        Check.refuses("P11 behind", IndexOutOfBoundsException.class, () -> house.words(1));
        for (int far : FAR) {
            Check.refuses("P11 " + far, IndexOutOfBoundsException.class, () -> house.words(far));
            Check.refuses("P12 text " + far, IndexOutOfBoundsException.class,
                    () -> house.length(far, 0));
            Check.refuses("P12 word " + far, IndexOutOfBoundsException.class,
                    () -> house.length(0, far));
        }
    }

    private static void cellsComeByLongestRule() {
        Dotpress house = new Dotpress();
        Check.addRule(house, "a", 1, 1, 0);
        Check.addRule(house, "ab", 1, 2, 3);
        Check.addRule(house, "abcd", 1, 4, 0);
        Check.addRule(house, "c", 1, 5, 0);
        Check.addRule(house, "bcd", 1, 6, 0);
        Check.setText(house, 0, 1, "abcd abc abca aabcdab abcdabcd bcab ab cd zbcd");
        String[] due =
            {"4", "2,3,5", "2,3,5,1", "1,4,2,3", "4,4", "63,5,2,3", "2,3", "5,63", "63,6"};
        for (int word = 0; word < due.length; word++) {
            Check.same("P13 word " + word, Check.cellsOf(house, 0, word), due[word]);
        }
        Check.same("P12 two cells", house.length(0, 6), 2);
    }

    private static void gradesLimitRules() {
        Dotpress house = new Dotpress();
        Check.addRule(house, "a", 1, 1, 0);
        Check.addRule(house, "ab", 2, 2, 0);
        Check.addRule(house, "abc", 1, 3, 0);
        Check.addRule(house, "abcd", 2, 4, 0);
        Check.setText(house, 0, 1, "a ab abc abcd");
        Check.setText(house, 1, 2, "a ab abc abcd");
        Check.same("P13 grade 1", Check.linesOf(house, 0), "1,0,1,63,0,3,0,3,63");
        Check.same("P13 grade 2", Check.linesOf(house, 1), "1,0,2,0,3,0,4");
    }

    private static void cellsHaveIndices() {
        Dotpress house = new Dotpress();
        Check.addRule(house, "a", 1, 7, 8);
        Check.setText(house, 0, 1, "ab b");
        Check.same("P13 0", house.cellOf(0, 0, 0), 7);
        Check.same("P13 1", house.cellOf(0, 0, 1), 8);
        Check.same("P13 2", house.cellOf(0, 0, 2), 63);
        Check.refuses("P13 3", NoSuchElementException.class, () -> house.cellOf(0, 0, 3));
        Check.refuses("P13 second word", NoSuchElementException.class, () -> house.cellOf(0, 1, 1));
        Check.refuses("P13 text", IndexOutOfBoundsException.class, () -> house.cellOf(1, 0, 0));
        Check.refuses("P13 word", IndexOutOfBoundsException.class, () -> house.cellOf(0, 2, 0));
        for (int far : FAR) {
            Check.refuses("P13 text " + far, IndexOutOfBoundsException.class,
                    () -> house.cellOf(far, 0, 0));
            Check.refuses("P13 word ahead of index " + far, IndexOutOfBoundsException.class,
                    () -> house.cellOf(0, far, far));
            Check.refuses("P13 index " + far, NoSuchElementException.class,
                    () -> house.cellOf(0, 0, far));
        }
    }

    private static void linesBreakAtWidth() {
        Dotpress house = new Dotpress();
        house.setWidth(8);
        Check.setText(house, 0, 1, "aaa aaaa");
        Check.same("P14 just room", house.lines(0), 1);
        Check.setText(house, 0, 1, "aaaa aaaa");
        Check.same("P14 one too many", house.lines(0), 2);
        Check.setText(house, 0, 1, "aaaaaaaa a");
        Check.same("P14 a full line", house.lines(0), 2);
        Check.setText(house, 0, 1, "aaaaaaa a");
        Check.same("P14 room for the blank alone", house.lines(0), 2);
        Check.setText(house, 0, 1, "a ".repeat(40));
        Check.same("P14 forty words", house.lines(0), 10);
        Check.setText(house, 0, 1, "aaaa ".repeat(16));
        Check.same("P14 sixteen words", house.lines(0), 16);
        house.setWidth(9);
        Check.same("P14 the next width", house.lines(0), 8);
        house.setWidth(40);
        Check.same("P14 the highest width", house.lines(0), 2);
        Check.refuses("P14 no text", IndexOutOfBoundsException.class, () -> house.lines(1));
        for (int far : FAR) {
            Check.refuses("P14 " + far, IndexOutOfBoundsException.class, () -> house.lines(far));
        }
    }

    private static void linesBreakAtEveryWidth() {
        Dotpress house = new Dotpress();
        Check.addRule(house, "a", 1, 1, 2);
        Check.setText(house, 0, 1, "aa ".repeat(27).substring(0, 80));
        for (int width = 8; width <= 40; width++) {
            house.setWidth(width);
            int wordsInLine = (width + 1) / 5;
            Check.same("P14 width " + width, house.lines(0), (27 + wordsInLine - 1) / wordsInLine);
            Check.same("P16 last word at " + width, house.lineOf(0, 26), 26 / wordsInLine);
            Check.same("P27 width " + width, house.isSound(), true);
        }
    }

    private static void longWordsFillLines() {
        Dotpress house = new Dotpress();
        house.setWidth(8);
        Check.addRule(house, "a", 1, 1, 0);
        Check.addRule(house, "b", 1, 2, 0);
        Check.setText(house, 0, 1, "b aaaaaaaaa bbbbbb b");
        Check.same("P15 long", Check.linesOf(house, 0), "2|1,1,1,1,1,1,1,1|1,0,2,2,2,2,2,2|2");
        Check.setText(house, 0, 1, "aaaaaaaaaaaaaaaa b");
        Check.same("P15 two full lines", Check.linesOf(house, 0),
                "1,1,1,1,1,1,1,1|1,1,1,1,1,1,1,1|2");
        Check.setText(house, 0, 1, "aaaaaaaaaaaaaa b");
        Check.same("P15 just room behind", Check.linesOf(house, 0),
                "1,1,1,1,1,1,1,1|1,1,1,1,1,1,0,2");
        Check.setText(house, 0, 1, "aaaaaaaaaaaaaaa b");
        Check.same("P15 no room behind", Check.linesOf(house, 0),
                "1,1,1,1,1,1,1,1|1,1,1,1,1,1,1|2");
        Check.mend(house, "a", 1, 1, 1);
        Check.setText(house, 0, 1, "a".repeat(80));
        Check.same("P14 160 cells", house.lines(0), 20);
        Check.same("P15 the last of 160", house.lineAt(0, 19, 7), 1);
        Check.same("P12 160 cells", house.length(0, 0), 160);
        house.setWidth(40);
        Check.same("P14 160 cells in wide lines", house.lines(0), 4);
    }

    private static void blanksAreOneCell() {
        Dotpress house = new Dotpress();
        Check.addRule(house, "a", 1, 1, 0);
        Check.setText(house, 0, 1, "   a     aa  a  ");
        Check.same("P15 one blank each", Check.linesOf(house, 0), "1,0,1,1,0,1");
    }

    private static void lineCellsHaveColumns() {
        Dotpress house = new Dotpress();
        house.setWidth(8);
        Check.addRule(house, "a", 1, 5, 0);
        Check.setText(house, 0, 1, "aaaaaa aa a");
        Check.same("P15 first", house.lineAt(0, 0, 5), 5);
        Check.same("P15 blank", house.lineAt(0, 1, 2), 0);
        Check.same("P15 last", house.lineAt(0, 1, 3), 5);
        Check.refuses("P15 column of line 0", NoSuchElementException.class,
                () -> house.lineAt(0, 0, 6));
        Check.refuses("P15 column of line 1", NoSuchElementException.class,
                () -> house.lineAt(0, 1, 4));
        Check.refuses("P15 line", IndexOutOfBoundsException.class, () -> house.lineAt(0, 2, 0));
        Check.refuses("P15 text", IndexOutOfBoundsException.class, () -> house.lineAt(1, 0, 0));
        for (int far : FAR) {
            Check.refuses("P15 text " + far, IndexOutOfBoundsException.class,
                    () -> house.lineAt(far, 0, 0));
            Check.refuses("P15 line ahead of column " + far, IndexOutOfBoundsException.class,
                    () -> house.lineAt(0, far, far));
            Check.refuses("P15 column " + far, NoSuchElementException.class,
                    () -> house.lineAt(0, 0, far));
        }
    }

    private static void lineOfTellsBeginnings() {
        Dotpress house = new Dotpress();
        house.setWidth(8);
        Check.setText(house, 0, 1, "a aaaaaaaaaaaaaaaaa aa aaa aaaa");
        int[] due = {0, 1, 3, 3, 4};
        for (int word = 0; word < due.length; word++) {
            Check.same("P16 word " + word, house.lineOf(0, word), due[word]);
        }
        house.setWidth(9);
        Check.same("P16 at another width", house.lineOf(0, 2), 3);
        house.setWidth(20);
        Check.same("P16 in one line", house.lineOf(0, 1), 0);
        Check.refuses("P16 word", IndexOutOfBoundsException.class, () -> house.lineOf(0, 5));
        Check.refuses("P16 text", IndexOutOfBoundsException.class, () -> house.lineOf(1, 0));
        for (int far : FAR) {
            Check.refuses("P16 word " + far, IndexOutOfBoundsException.class,
                    () -> house.lineOf(0, far));
            Check.refuses("P16 text " + far, IndexOutOfBoundsException.class,
                    () -> house.lineOf(far, 0));
        }
    }
}
