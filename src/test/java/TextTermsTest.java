import java.math.BigInteger;
import java.util.NoSuchElementException;

/** The boundaries that "Terms" names of texts, lines, embossing and proofs. */
final class TextTermsTest {
    public static void main(String[] args) {
        atMostSixTexts();
        widthIsTwentyAtFirst();
        wordStandsWhereItHasRoom();
        fullLinesTakeNoBlank();
        longWordsBeginALine();
        wordsFollowALongWord();
        pagesHaveFourLines();
        sameLinesAreLeftOut();
        linesAreComparedAheadOfTyping();
        linesBeyondAreAnew();
        bearingIsFiveThousandAtFirst();
        bearingHasAHighestEnd();
        eachPinBearsTen();
        strikesCountSinceThePinWasNew();
        pinsThatAreNotStruckDoNotCount();
        marksGoWithOneCell();
        marksStayGone();
        marksGoWhenTypedAnew();
        textsWithoutWordsHaveNoLines();
        checksumWrapsRound();
        Check.end();
    }

    /** A house whose letter a has the cell 1 and whose letter b has the cells 2 and 2. */
    private static Dotpress houseOf(int width, String letters) {
        Dotpress house = new Dotpress();
        house.setWidth(width);
        Check.addRule(house, "a", 1, 1, 0);
        Check.addRule(house, "b", 1, 2, 2);
        Check.setText(house, 0, 1, letters);
        return house;
    }

    private static void atMostSixTexts() {
        Dotpress house = new Dotpress();
        for (int text = 0; text < 6; text++) {
            int next = text + 1;
            Check.same("text " + text, Check.setText(house, text, 1, "a"), 1);
            Check.refuses("behind " + text, IndexOutOfBoundsException.class,
                    () -> house.words(next));
            Check.refuses("two behind " + text, IndexOutOfBoundsException.class,
                    () -> house.setText(next + 1, 1));
        }
        Check.refuses("a seventh", IndexOutOfBoundsException.class, () -> house.setText(6, 1));
        Check.same("the last anew", Check.setText(house, 5, 1, "a a"), 2);
        Check.same("the one ahead of it", house.words(4), 1);
    }

    private static void widthIsTwentyAtFirst() {
        Dotpress house = new Dotpress();
        Check.setText(house, 0, 1, "a".repeat(10) + " " + "a".repeat(9));
        Check.same("twenty cells", house.lines(0), 1);
        Check.setText(house, 0, 1, "a".repeat(10) + " " + "a".repeat(10));
        Check.same("21 cells", house.lines(0), 2);
        Check.setText(house, 1, 1, "a".repeat(20));
        Check.same("a word of twenty", house.lines(1), 1);
        Check.setText(house, 1, 1, "a".repeat(21));
        Check.same("a word of 21", house.lines(1), 2);
    }

    private static void wordStandsWhereItHasRoom() {
        for (int width : new int[] {8, 9, 20, 39, 40}) {
            for (int first = 1; first < width - 1; first++) {
                wordHasRoom(width, first, width - 1 - first);
                wordHasNoRoom(width, first, width - first);
            }
        }
    }

    private static void wordHasRoom(int width, int first, int second) {
        Dotpress house = houseOf(width, "a".repeat(first) + " " + "a".repeat(second));
        String what = "width " + width + ", words of " + first + " and " + second;
        Check.same(what + ": one line", house.lines(0), 1);
        Check.same(what + ": the second word", house.lineOf(0, 1), 0);
        Check.same(what + ": the blank", house.lineAt(0, 0, first), 0);
        Check.same(what + ": the last cell", house.lineAt(0, 0, width - 1), 1);
    }

    private static void wordHasNoRoom(int width, int first, int second) {
        Dotpress house = houseOf(width, "a".repeat(first) + " " + "a".repeat(second));
        String what = "width " + width + ", words of " + first + " and " + second;
        Check.same(what + ": two lines", house.lines(0), 2);
        Check.same(what + ": the second word", house.lineOf(0, 1), 1);
        Check.refuses(what + ": no blank at the end", NoSuchElementException.class,
                () -> house.lineAt(0, 0, first));
        Check.same(what + ": no blank ahead", house.lineAt(0, 1, 0), 1);
    }

    private static void fullLinesTakeNoBlank() {
        String eight = "1,1,1,1,1,1,1,1";
        Dotpress house = houseOf(8, "aaaaaaaa a");
        Check.same("a full line", Check.linesOf(house, 0), eight + "|1");
        Check.setText(house, 0, 1, "aaaaaaa a");
        Check.same("room for the blank alone", Check.linesOf(house, 0), "1,1,1,1,1,1,1|1");
        Check.setText(house, 0, 1, "aaaaaa a a");
        Check.same("room for one", Check.linesOf(house, 0), "1,1,1,1,1,1,0,1|1");
        Check.setText(house, 0, 1, "aaaaaaa bbbb b");
        Check.same("cells count, not letters", Check.linesOf(house, 0),
                "1,1,1,1,1,1,1|2,2,2,2,2,2,2,2|2,2");
    }

    private static void longWordsBeginALine() {
        for (int width : new int[] {8, 20, 39, 40}) {
            Dotpress house = houseOf(width, "a " + "a".repeat(width - 1));
            Check.same(width + ": a cell less", house.lines(0), 2);
            Check.setText(house, 0, 1, "a " + "a".repeat(width));
            Check.same(width + ": as long as a line", house.lines(0), 2);
            Check.same(width + ": it begins", house.lineOf(0, 1), 1);
            if (width < 40) {
                Check.setText(house, 0, 1, "a " + "a".repeat(width + 1));
                Check.same(width + ": longer", house.lines(0), 3);
                Check.same(width + ": the longer one begins", house.lineOf(0, 1), 1);
                Check.same(width + ": it fills", house.lineAt(0, 1, width - 1), 1);
                Check.same(width + ": it goes on", house.lineAt(0, 2, 0), 1);
            }
        }
        Dotpress house = houseOf(8, "a".repeat(17));
        Check.same("first in the text", house.lineOf(0, 0), 0);
        Check.same("three lines", house.lines(0), 3);
        Check.setText(house, 0, 1, "a".repeat(16));
        Check.same("two lines", house.lines(0), 2);
        Check.setText(house, 0, 1, "a".repeat(15));
        Check.same("two lines, not full", house.lines(0), 2);
        Check.setText(house, 0, 1, "a " + "b".repeat(10) + " a");
        Check.same("long by its cells", house.lines(0), 4);
    }

    private static void wordsFollowALongWord() {
        for (int rest = 1; rest <= 8; rest++) {
            for (int next = 1; next <= 9; next++) {
                Dotpress house = houseOf(8, "a".repeat(8 + rest) + " " + "a".repeat(next) + " a");
                boolean isRoom = rest + 1 + next <= 8;
                String what = "rest " + rest + ", next " + next;
                Check.same(what, house.lineOf(0, 1), isRoom ? 1 : 2);
                Check.same(what + ", in the line", house.isSound(), true);
                if (isRoom) {
                    Check.same(what + ", a blank", house.lineAt(0, 1, rest), 0);
                }
            }
        }
        Dotpress house = houseOf(8, "aaaaaaaaa aaaaaaaaa");
        Check.same("a long one does not follow", Check.linesOf(house, 0),
                "1,1,1,1,1,1,1,1|1|1,1,1,1,1,1,1,1|1");
    }

    private static void pagesHaveFourLines() {
        for (int lines = 1; lines <= 13; lines++) {
            Dotpress house = houseOf(8, "aaaaa ".repeat(lines));
            Check.same("lines " + lines, house.lines(0), lines);
            int pages = lines <= 4 ? 1 : lines <= 8 ? 2 : lines <= 12 ? 3 : 4;
            Check.same("pages of " + lines, house.emboss(0), 100 * pages + lines);
        }
        for (int line = 0; line < 9; line++) {
            Dotpress house = houseOf(8, "aaaaa ".repeat(9));
            house.emboss(0);
            String ahead = "aaaaa ".repeat(line);
            Check.setText(house, 0, 1, ahead + "aaaab " + "aaaaa ".repeat(8 - line));
            Check.same("line " + line + " alone", house.emboss(0), 101);
            Check.setText(house, 0, 1, ahead + "aaaaa " + "aaaaa ".repeat(8 - line));
            Check.same("line " + line + " again", house.emboss(0), 101);
        }
    }

    private static void sameLinesAreLeftOut() {
        String[] others = {"baaaa a", "aaaab a", "aaaaa b", "aaaaa", "aaaaa a a", "aaaaaaa",
            "aaaa aa"};
        for (String other : others) {
            Dotpress house = houseOf(9, "aaaaa a");
            Check.same("all of it", house.emboss(0), 101);
            Check.same("nothing", house.emboss(0), 0);
            Check.setText(house, 0, 1, other);
            Check.same("[" + other + "] is other", house.changed(0), 1);
            Check.same("[" + other + "] is embossed", house.emboss(0), 101);
            Check.same("[" + other + "] is left out then", house.emboss(0), 0);
        }
    }

    private static void linesAreComparedAheadOfTyping() {
        Dotpress house = houseOf(8, "aaaaaaaa bbbb");
        house.emboss(0);
        Check.setText(house, 0, 2, "aaaaaaaa bbbb");
        Check.same("the same typed anew", house.emboss(0), 0);
        Check.setText(house, 0, 1, "bbbb aaaaaaaa");
        Check.same("typed away", house.changed(0), 2);
        Check.setText(house, 0, 1, "aaaaaaaa bbba");
        Check.same("the second line", house.emboss(0), 101);
        Check.setText(house, 0, 1, "aaaaaaaa bbbb");
        Check.same("not those ahead of the last", house.emboss(0), 101);
    }

    private static void linesBeyondAreAnew() {
        Dotpress house = houseOf(8, "aaaaa ".repeat(6));
        Check.same("six lines", house.emboss(0), 206);
        Check.setText(house, 0, 1, "aaaaa ".repeat(5));
        Check.same("one is no more", house.changed(0), 1);
        Check.setText(house, 0, 1, "aaaaa ".repeat(6));
        Check.same("it came again ahead of embossing", house.emboss(0), 0);
        Check.setText(house, 0, 1, "aaaaa ".repeat(5));
        Check.same("five lines are the same", house.emboss(0), 0);
        Check.same("none is changed", house.changed(0), 0);
        Check.setText(house, 0, 1, "aaaaa ".repeat(6));
        Check.same("it came again", house.changed(0), 1);
        Check.same("it is embossed anew", house.emboss(0), 101);
        house.setText(0, 1);
        Check.same("six are no more", house.changed(0), 6);
        Check.same("nothing to emboss", house.emboss(0), 0);
        Check.setText(house, 0, 1, "aaaaa ".repeat(4));
        Check.same("four came again", house.emboss(0), 104);
    }

    /** Strikes pin 1 so often with 80 letters of two cells, each time with other lines. */
    private static Dotpress struck(int embossings) {
        Dotpress house = new Dotpress();
        house.setBearing(9999);
        Check.addRule(house, "a", 1, 1, 1);
        Check.setText(house, 0, 1, "a".repeat(80));
        for (int i = 1; i <= embossings; i++) {
            Check.same("embossing " + i, house.emboss(0), 208);
            Check.same("strikes of " + i, house.strikes(1), 160 * i);
            Check.mend(house, "a", 1, 1, i % 2 == 0 ? 1 : 3);
        }
        Check.mend(house, "a", 1, 1, 1);
        return house;
    }

    private static void bearingIsFiveThousandAtFirst() {
        Check.same("at first", House.NEW.make().setBearing(10), 5000);
        for (int more = 0; more <= 1; more++) {
            Dotpress house = new Dotpress();
            Check.addRule(house, "a", 1, 1, 1);
            Check.addRule(house, "b", 1, 1, 0);
            Check.setText(house, 0, 1, "a".repeat(80));
            for (int i = 0; i < 31; i++) {
                house.emboss(0);
                Check.mend(house, "a", 1, 1, i % 2 == 0 ? 3 : 1);
            }
            Check.setText(house, 0, 1, "a".repeat(20) + "b".repeat(more));
            Check.same("ahead of the last", house.strikes(1), 4960);
            if (more == 0) {
                Check.same("5000 strikes", house.emboss(0), 102);
                Check.same("all are struck", house.strikes(1), 5000);
                Check.setText(house, 0, 1, "b");
            }
            Check.refuses("5001 strikes", IllegalStateException.class, () -> house.emboss(0));
            Check.same("none is struck", house.strikes(1), more == 0 ? 5000 : 4960);
        }
    }

    private static void bearingHasAHighestEnd() {
        Dotpress house = struck(62);
        Check.addRule(house, "b", 1, 1, 0);
        Check.setText(house, 1, 1, "a".repeat(40));
        Check.same("9920 strikes", house.strikes(1), 9920);
        Check.refuses("10000 strikes", IllegalStateException.class, () -> house.emboss(1));
        Check.setText(house, 1, 1, "a".repeat(39) + "b");
        Check.same("9999 strikes", house.emboss(1), 104);
        Check.same("all are struck", house.strikes(1), 9999);
        Check.setText(house, 1, 1, "b");
        Check.refuses("one more", IllegalStateException.class, () -> house.emboss(1));
        Check.same("none is struck", house.strikes(1), 9999);
        Check.same("of the old one", house.replace(1), 9999);
        Check.same("of the new one", house.strikes(1), 0);
        Check.same("a new pin bears it", house.emboss(1), 101);
    }

    private static void eachPinBearsTen() {
        for (int pin = 1; pin <= 6; pin++) {
            Dotpress house = new Dotpress();
            house.setBearing(10);
            Check.addRule(house, "a", 1, 1 << (pin - 1), 0);
            Check.addRule(house, "b", 1, 63 - (1 << (pin - 1)), 0);
            Check.setText(house, 0, 1, "b" + "a".repeat(11));
            Check.refuses("eleven of " + pin, IllegalStateException.class, () -> house.emboss(0));
            Check.same("nothing is struck", house.meanStrikes(), 0.0);
            Check.same("nothing is embossed", house.changed(0), 1);
            Check.setText(house, 0, 1, "b" + "a".repeat(10));
            Check.same("ten of " + pin, house.emboss(0), 101);
            Check.same("ten strikes of " + pin, house.strikes(pin), 10);
            Check.same("one strike of the others", house.meanStrikes(), 15 / 6.0);
            Check.setText(house, 1, 1, "a");
            Check.refuses("one more of " + pin, IllegalStateException.class, () -> house.emboss(1));
            house.setBearing(11);
            Check.same("eleven are borne", house.emboss(1), 101);
        }
    }

    private static void strikesCountSinceThePinWasNew() {
        Dotpress house = houseOf(20, "aaaaaaaaaa");
        house.setBearing(10);
        house.emboss(0);
        Check.setText(house, 1, 1, "aaaaaaaaaa");
        Check.refuses("the old pin", IllegalStateException.class, () -> house.emboss(1));
        Check.same("another pin is replaced", house.replace(2), 0);
        Check.refuses("still the old pin", IllegalStateException.class, () -> house.emboss(1));
        Check.same("it is replaced", house.replace(1), 10);
        Check.same("ten on the new pin", house.emboss(1), 101);
        Check.same("ten strikes", house.strikes(1), 10);
        Check.setText(house, 2, 1, "a");
        Check.refuses("eleven on it", IllegalStateException.class, () -> house.emboss(2));
    }

    private static void pinsThatAreNotStruckDoNotCount() {
        Dotpress house = houseOf(20, "aaaaaaaaaaa");
        house.emboss(0);
        house.setBearing(10);
        Check.same("same lines", house.emboss(0), 0);
        Check.setText(house, 1, 1, "bbbbb");
        Check.same("ten of another pin", house.emboss(1), 101);
        Check.setText(house, 2, 1, "");
        Check.same("no lines", house.emboss(2), 0);
        Check.setText(house, 0, 1, "");
        Check.same("no lines any more", house.emboss(0), 0);
        Check.setText(house, 0, 1, "a");
        Check.refuses("the worn pin", IllegalStateException.class, () -> house.emboss(0));
    }

    private static void markAll(Dotpress house, int text) {
        for (int word = 0; word < house.words(text); word++) {
            house.mark(0, text, word, true);
            house.mark(1, text, word, false);
        }
    }

    private static String marksOf(Dotpress house, int text) {
        StringBuilder marks = new StringBuilder();
        for (int word = 0; word < house.words(text); word++) {
            marks.append(house.markOf(0, text, word)).append(house.markOf(1, text, word));
        }
        return marks.toString();
    }

    private static void marksGoWithOneCell() {
        Dotpress house = houseOf(8, "a b aab");
        Check.addRule(house, "c", 2, 9, 0);
        Check.setText(house, 1, 2, "cba ac c");
        markAll(house, 0);
        markAll(house, 1);
        Check.mend(house, "b", 1, 2, 3);
        Check.same("a second cell", marksOf(house, 0), "rw----");
        Check.same("in the middle of a word", marksOf(house, 1), "--rwrw");
        markAll(house, 0);
        Check.mend(house, "b", 1, 2, 0);
        Check.same("a cell less", marksOf(house, 0), "rw----");
        markAll(house, 0);
        markAll(house, 1);
        Check.mend(house, "c", 1, 9, 0);
        Check.same("a grade alone", marksOf(house, 0) + marksOf(house, 1), "rwrwrwrwrwrw");
        Check.mend(house, "c", 1, 63, 0);
        Check.same("words with c", marksOf(house, 0) + marksOf(house, 1), "rwrwrw------");
        markAll(house, 1);
        house.removeRule(2);
        Check.same("the cells without a rule", marksOf(house, 1), "rwrwrw");
    }

    private static void marksStayGone() {
        Dotpress house = houseOf(8, "a a");
        house.mark(0, 0, 0, true);
        house.mark(1, 0, 0, true);
        house.mark(1, 0, 1, false);
        Check.same("marked", marksOf(house, 0), "rr-w");
        Check.mend(house, "a", 1, 4, 0);
        Check.mend(house, "a", 1, 1, 0);
        Check.same("gone", marksOf(house, 0), "----");
        Check.same("none proved", house.provedShare(), 0f);
        Check.same("the other one's is gone", house.mark(0, 0, 0, true), false);
        Check.same("marked again", house.mark(1, 0, 0, true), true);
        Check.same("one is proved", house.provedShare(), 0.5f);
        house.setWidth(40);
        Check.mend(house, "a", 1, 1, 0);
        house.emboss(0);
        Check.same("the same cells", marksOf(house, 0), "rr--");
    }

    private static void marksGoWhenTypedAnew() {
        Dotpress house = houseOf(8, "a b");
        Check.setText(house, 1, 1, "a b");
        markAll(house, 0);
        markAll(house, 1);
        Check.setText(house, 0, 1, "a b");
        Check.same("typed anew", marksOf(house, 0), "----");
        Check.same("the other text", marksOf(house, 1), "rwrw");
        markAll(house, 0);
        house.setText(0, 1);
        Check.setText(house, 0, 1, "a b a");
        Check.same("with a word more", marksOf(house, 0), "------");
    }

    private static void textsWithoutWordsHaveNoLines() {
        for (String letters : new String[] {"", " ", " ".repeat(80)}) {
            Dotpress house = new Dotpress();
            Check.same("no words", Check.setText(house, 0, 1, letters), 0);
            Check.same("no lines", house.lines(0), 0);
            Check.same("no changed lines", house.changed(0), 0);
            Check.same("nothing embossed", house.emboss(0), 0);
            Check.same("no sum", house.checksum(), 0);
            Check.same("sound", house.isSound(), true);
            Check.refuses("no first word", IndexOutOfBoundsException.class,
                    () -> house.length(0, 0));
            Check.refuses("no first line", IndexOutOfBoundsException.class,
                    () -> house.lineAt(0, 0, 0));
            Check.refuses("no share", ArithmeticException.class, house::provedShare);
            house.setWidth(8);
            Check.same("still no lines", house.lines(0), 0);
            Check.setText(house, 1, 1, "z");
            Check.same("it adds no words", house.provedShare(), 0f);
            Check.same("it adds no cells", house.checksum(), 63);
        }
    }

    private static void checksumWrapsRound() {
        BigInteger whole = BigInteger.ZERO;
        BigInteger factor = BigInteger.valueOf(31);
        for (int cells = 1; cells <= 30; cells++) {
            Dotpress house = new Dotpress();
            Check.setText(house, 0, 1, "z".repeat(cells));
            whole = whole.multiply(factor).add(BigInteger.valueOf(63));
            Check.same("of " + cells, house.checksum(), whole.longValue());
        }
        Check.same("it is beyond a long", whole.bitLength() > 64, true);
    }
}
