/**
 * The ends of each promise's ranges: the last values that are allowed do what they should, on
 * each side. {@link RefusalTest} holds the first ones that are not.
 */
final class RangeTest {
    private static final String FORTY_WORDS = "a ".repeat(40);

    public static void main(String[] args) {
        typeCountsToEighty();
        clearTellsNoneAndAll();
        addRuleTakesTheEndsOfItsNumbers();
        addRuleTakesOneToFourLetters();
        addRuleAnswersTheEndsOfThePlaces();
        mendTakesTheEndsOfItsNumbers();
        mendTakesOneToFourLetters();
        mendCountsNoneAndAllTexts();
        removeRuleTakesTheEndsOfThePlaces();
        removeRuleLeavesTheCellsOfTheOthers();
        ruleAtTakesTheEnds();
        turnExceptionTakesShortAndLongWords();
        turnExceptionTakesTheTwentieth();
        setTextTakesTheEnds();
        setTextCountsNoneAndForty();
        setWidthTakesTheEnds();
        wordsHaveEnds();
        cellsHaveEnds();
        linesHaveEnds();
        lineCellsHaveEnds();
        lineOfHasEnds();
        embossAnswersNoneAndTheMost();
        changedAnswersNoneAndTheMost();
        setBearingTakesTheEnds();
        pinsHaveEnds();
        marksHaveEnds();
        checksumHasEnds();
        provedShareHasEnds();
        meanStrikesHasEnds();
        isSoundWhenEmptyAndFull();
        Check.end();
    }

    // Promises 2 and 3

    private static void typeCountsToEighty() {
        Dotpress house = new Dotpress();
        for (int count = 1; count <= 80; count++) {
            Check.same("P2 sign " + count, house.type(count % 7 == 0 ? ' ' : 'z'), count);
        }
    }

    private static void clearTellsNoneAndAll() {
        for (int count : new int[] {0, 1, 79, 80}) {
            Dotpress house = House.NEW.makeWith("b".repeat(count));
            Check.same("P3 of " + count, house.clear(), count);
            Check.same("P3 then none", house.clear(), 0);
            Check.same("P2 then the first", house.type(' '), 1);
        }
    }

    // Promises 4 and 5

    private static void addRuleTakesTheEndsOfItsNumbers() {
        for (int grade = 1; grade <= 2; grade++) {
            for (int first : new int[] {1, 63}) {
                for (int second : new int[] {0, 1, 63}) {
                    Dotpress house = House.NEW.makeWith("a");
                    Check.same("P4 place", house.addRule(grade, first, second), 0);
                    tellsCells(house, "P4", grade, first, second);
                }
            }
        }
    }

    private static void tellsCells(
            Dotpress house, String promise, int grade, int first, int second) {
        String what = promise + " " + grade + " " + first + " " + second;
        String cells = second == 0 ? "" + first : first + "," + second;
        Check.same(what + " empties", house.clear(), 0);
        Check.setText(house, 0, 1, "a");
        Check.setText(house, 1, 2, "a");
        Check.same(what + " in grade 1", Check.cellsOf(house, 0, 0), grade == 1 ? cells : "63");
        Check.same(what + " in grade 2", Check.cellsOf(house, 1, 0), cells);
    }

    private static void addRuleTakesOneToFourLetters() {
        for (String letters : new String[] {"a", "z", "az", "zaz", "azaz", "zzzz", "aaaa"}) {
            Dotpress house = House.NEW.makeWith(letters);
            Check.same("P4 " + letters, house.addRule(1, 5, 0), 0);
            Check.same("P7 " + letters, Check.rulesOf(house, 1), letters);
            Check.setText(house, 0, 1, letters);
            Check.same("P13 " + letters, Check.cellsOf(house, 0, 0), "5");
        }
    }

    private static void addRuleAnswersTheEndsOfThePlaces() {
        Dotpress upwards = new Dotpress();
        Dotpress downwards = new Dotpress();
        for (int i = 0; i < 40; i++) {
            int place = Check.addRule(upwards, House.fullRule(i), 1, 1, 0);
            Check.same("P4 behind all others", place, i);
            Check.same("P4 ahead of all others",
                    Check.addRule(downwards, House.fullRule(39 - i), 1, 1, 0), 0);
        }
        Check.same("P7 the same order", Check.rulesOf(upwards, 40), Check.rulesOf(downwards, 40));
    }

    private static void mendTakesTheEndsOfItsNumbers() {
        for (int grade = 1; grade <= 2; grade++) {
            for (int first : new int[] {1, 63}) {
                for (int second : new int[] {0, 1, 63}) {
                    Dotpress house = new Dotpress();
                    Check.addRule(house, "a", 3 - grade, 30, grade == 1 ? 31 : 0);
                    Check.same("P5 no texts", Check.mend(house, "a", grade, first, second), 0);
                    tellsCells(house, "P5", grade, first, second);
                }
            }
        }
    }

    private static void mendTakesOneToFourLetters() {
        for (String letters : new String[] {"a", "z", "az", "zaz", "azaz", "zzzz"}) {
            Dotpress house = House.NEW.makeWith(letters);
            house.addRule(1, 5, 0);
            Check.setText(house, 0, 1, letters);
            Check.same("P5 " + letters, Check.mend(house, letters, 1, 6, 0), 1);
            Check.same("P5 empties", house.clear(), 0);
            Check.same("P13 " + letters, Check.cellsOf(house, 0, 0), "6");
            Check.same("P7 " + letters, Check.rulesOf(house, 1), letters);
        }
        Dotpress full = House.FULL.make();
        Check.same("P5 the first of 40", Check.mend(full, "a", 1, 50, 0), 3);
        Check.same("P5 the last of 40", Check.mend(full, "zn", 1, 50, 0), 0);
    }

    private static void mendCountsNoneAndAllTexts() {
        Dotpress house = new Dotpress();
        Check.addRule(house, "a", 1, 1, 0);
        for (int text = 0; text < 6; text++) {
            Check.setText(house, text, 1 + text % 2, "b a");
        }
        Check.same("P5 all six", Check.mend(house, "a", 1, 2, 0), 6);
        Check.same("P5 none", Check.mend(house, "a", 1, 2, 0), 0);
        Check.same("P5 those of grade 1", Check.mend(house, "a", 2, 2, 0), 3);
        Check.setText(house, 5, 2, "");
        Check.same("P5 one without words", Check.mend(house, "a", 2, 2, 2), 2);
        Check.setText(house, 3, 2, "b ".repeat(39) + "ba");
        Check.same("P5 the last of forty words", Check.mend(house, "a", 2, 2, 3), 2);
    }

    // Promises 6 and 7

    private static void removeRuleTakesTheEndsOfThePlaces() {
        Dotpress house = House.FULL.make();
        Check.same("P6 the last", house.removeRule(39), 39);
        Check.same("P7 the last is gone", Check.lettersOf(house, 38), "zm");
        Check.same("P6 the first", house.removeRule(0), 38);
        Check.same("P7 the first is gone", Check.lettersOf(house, 0), "b");
        Check.same("P7 the others stay", Check.lettersOf(house, 37), "zm");
        for (int left = 37; left >= 0; left--) {
            Check.same("P6 left " + left, house.removeRule(left % 2 == 0 ? 0 : left), left);
        }
        Check.setText(house, 2, 2, "a z za");
        Check.same("P13 no rules", Check.linesOf(house, 2), "63,0,63,0,63,63");
        Check.same("P4 one again", Check.addRule(house, "a", 1, 1, 0), 0);
    }

    private static void removeRuleLeavesTheCellsOfTheOthers() {
        Dotpress house = new Dotpress();
        Check.addRule(house, "a", 1, 1, 0);
        Check.addRule(house, "b", 2, 2, 3);
        Check.addRule(house, "c", 1, 4, 0);
        Check.addRule(house, "d", 2, 5, 6);
        Check.setText(house, 0, 1, "abcd");
        Check.setText(house, 1, 2, "abcd");
        house.removeRule(0);
        Check.same("P6 the first, grade 1", Check.cellsOf(house, 0, 0), "63,63,4,63");
        Check.same("P6 the first, grade 2", Check.cellsOf(house, 1, 0), "63,2,3,4,5,6");
        house.removeRule(2);
        Check.same("P6 the last, grade 1", Check.cellsOf(house, 0, 0), "63,63,4,63");
        Check.same("P6 the last, grade 2", Check.cellsOf(house, 1, 0), "63,2,3,4,63");
    }

    private static void ruleAtTakesTheEnds() {
        Dotpress house = House.FULL.make();
        Check.same("P7 the first", house.ruleAt(0, 0), 'a');
        Check.same("P7 the last", house.ruleAt(39, 0), 'z');
        Check.same("P7 its last letter", house.ruleAt(39, 1), 'n');
        Dotpress one = new Dotpress();
        Check.addRule(one, "azya", 1, 1, 0);
        Check.same("P7 the first of four", one.ruleAt(0, 0), 'a');
        Check.same("P7 the second of four", one.ruleAt(0, 1), 'z');
        Check.same("P7 the last of four", one.ruleAt(0, 3), 'a');
    }

    // Promise 8

    private static void turnExceptionTakesShortAndLongWords() {
        for (String word : new String[] {"a", "z", "ab", "b".repeat(79), "c".repeat(80)}) {
            Dotpress house = new Dotpress();
            Check.same("P8 on " + word.length(), Check.turnException(house, word), true);
            Check.same("P8 empties", house.clear(), 0);
            Check.same("P8 off " + word.length(), Check.turnException(house, word), false);
            Check.same("P8 empties again", house.clear(), 0);
            Check.same("P8 on again", Check.turnException(house, word), true);
        }
    }

    private static void turnExceptionTakesTheTwentieth() {
        Dotpress house = new Dotpress();
        for (int i = 0; i < 20; i++) {
            Check.same("P8 number " + i, Check.turnException(house, House.fullException(i)), true);
        }
        Check.same("P8 the last off", Check.turnException(house, "xt"), false);
        Check.same("P8 a twentieth", Check.turnException(house, "new"), true);
        Check.same("P8 the first off", Check.turnException(house, "xa"), false);
        Check.same("P8 the last on", Check.turnException(house, "xt"), true);
        for (int i = 19; i > 0; i--) {
            Check.same("P8 off " + i, Check.turnException(house, House.fullException(i)), false);
        }
        Check.same("P8 the other off", Check.turnException(house, "new"), false);
        Check.same("P8 the first on", Check.turnException(house, "xa"), true);
    }

    // Promises 9 to 11

    private static void setTextTakesTheEnds() {
        Dotpress house = new Dotpress();
        Check.addRule(house, "a", 2, 9, 0);
        for (int text = 0; text < 6; text++) {
            int words = Check.setText(house, text, 2 - text % 2, "a ".repeat(text + 1));
            Check.same("P9 new " + text, words, text + 1);
            Check.same("P9 empties", house.clear(), 0);
        }
        for (int text = 0; text < 6; text++) {
            Check.same("P11 text " + text, house.words(text), text + 1);
            Check.same("P13 text " + text, house.cellOf(text, text, 0), text % 2 == 0 ? 9 : 63);
        }
        Check.same("P9 the first anew", Check.setText(house, 0, 1, "a a a"), 3);
        Check.same("P9 the last anew", Check.setText(house, 5, 2, "a"), 1);
        Check.same("P13 the first in grade 1", Check.cellsOf(house, 0, 2), "63");
        Check.same("P13 the last in grade 2", Check.cellsOf(house, 5, 0), "9");
    }

    private static void setTextCountsNoneAndForty() {
        for (String letters : new String[] {"", " ", " ".repeat(80)}) {
            Dotpress house = new Dotpress();
            Check.same("P9 no words", Check.setText(house, 0, 1, letters), 0);
            Check.same("P11 no words", house.words(0), 0);
            Check.same("P9 empties", house.clear(), 0);
        }
        for (String letters : new String[] {FORTY_WORDS, " a".repeat(40)}) {
            Dotpress house = new Dotpress();
            Check.same("P9 forty words", Check.setText(house, 0, 1, letters), 40);
            Check.same("P11 forty words", house.words(0), 40);
            Check.same("P9 empties", house.clear(), 0);
        }
        Dotpress house = new Dotpress();
        Check.same("P9 one word", Check.setText(house, 0, 1, "a".repeat(80)), 1);
        Check.same("P9 two words", Check.setText(house, 0, 1, "a" + " ".repeat(78) + "a"), 2);
    }

    private static void setWidthTakesTheEnds() {
        for (int width : new int[] {8, 9, 39, 40}) {
            Dotpress house = new Dotpress();
            Check.setText(house, 0, 1, "a".repeat(width + 1));
            Check.same("P10 the first one", house.setWidth(width), 20);
            Check.same("P14 lines of " + width, house.lines(0), 2);
            Check.same("P15 the last of " + width, house.lineAt(0, 0, width - 1), 63);
            Check.same("P15 the one behind it", house.lineAt(0, 1, 0), 63);
            Check.same("P10 before " + width, house.setWidth(20), width);
        }
    }

    // Promises 12 to 16

    /** A house with the text 5 of forty words, each of two cells. */
    private static Dotpress houseOfFortyWords() {
        Dotpress house = new Dotpress();
        Check.addRule(house, "a", 1, 1, 2);
        for (int text = 0; text < 5; text++) {
            house.setText(text, 1);
        }
        Check.setText(house, 5, 1, FORTY_WORDS);
        return house;
    }

    private static void wordsHaveEnds() {
        Dotpress house = houseOfFortyWords();
        Check.same("P12 the first word", house.length(5, 0), 2);
        Check.same("P12 the last word", house.length(5, 39), 2);
        Check.setText(house, 0, 1, "b");
        Check.same("P12 one cell", house.length(0, 0), 1);
        Check.setText(house, 0, 1, "a".repeat(80));
        Check.same("P12 the most cells", house.length(0, 0), 160);
    }

    private static void cellsHaveEnds() {
        Dotpress house = houseOfFortyWords();
        Check.same("P13 first cell of the first word", house.cellOf(5, 0, 0), 1);
        Check.same("P13 last cell of the first word", house.cellOf(5, 0, 1), 2);
        Check.same("P13 first cell of the last word", house.cellOf(5, 39, 0), 1);
        Check.same("P13 last cell of the last word", house.cellOf(5, 39, 1), 2);
        Check.setText(house, 0, 1, "a".repeat(80));
        Check.same("P13 the first of 160", house.cellOf(0, 0, 0), 1);
        Check.same("P13 the last of 160", house.cellOf(0, 0, 159), 2);
    }

    /** A house with the text 0 of 27 lines, the most that can be: two words never share one. */
    private static Dotpress houseOfMostLines() {
        Dotpress house = new Dotpress();
        house.setWidth(8);
        Check.addRule(house, "a", 1, 1, 2);
        Check.setText(house, 0, 1, "aa ".repeat(27).substring(0, 80));
        return house;
    }

    private static void linesHaveEnds() {
        Dotpress house = houseOfMostLines();
        Check.same("P14 the most", house.lines(0), 27);
        house.setText(1, 1);
        Check.same("P14 none", house.lines(1), 0);
        Check.setText(house, 1, 1, "b");
        Check.same("P14 one", house.lines(1), 1);
    }

    private static void lineCellsHaveEnds() {
        Dotpress house = houseOfMostLines();
        Check.same("P15 first", house.lineAt(0, 0, 0), 1);
        Check.same("P15 last of the first", house.lineAt(0, 0, 3), 2);
        Check.same("P15 first of the last", house.lineAt(0, 26, 0), 1);
        Check.same("P15 last", house.lineAt(0, 26, 3), 2);
        Check.setText(house, 1, 1, "a".repeat(80));
        Check.same("P15 column 7", house.lineAt(1, 19, 7), 2);
        house.setWidth(40);
        Check.same("P15 column 39", house.lineAt(1, 3, 39), 2);
    }

    private static void lineOfHasEnds() {
        Dotpress house = houseOfMostLines();
        Check.same("P16 the first word", house.lineOf(0, 0), 0);
        Check.same("P16 the last word", house.lineOf(0, 26), 26);
        Dotpress forty = houseOfFortyWords();
        Check.same("P16 the last of forty", forty.lineOf(5, 39), 5);
        forty.setWidth(40);
        Check.same("P16 at the highest width", forty.lineOf(5, 39), 3);
        forty.setWidth(8);
        Check.same("P16 at the lowest width", forty.lineOf(5, 39), 13);
        Check.setText(forty, 5, 1, "a a");
        Check.same("P16 typed anew", forty.lineOf(5, 1), 0);
    }

    // Promises 17 to 21

    private static void embossAnswersNoneAndTheMost() {
        Dotpress house = houseOfMostLines();
        Check.same("P17 seven pages", house.emboss(0), 727);
        Check.same("P17 none", house.emboss(0), 0);
        Dotpress forty = houseOfFortyWords();
        Check.same("P17 the text 0 without words", forty.emboss(0), 0);
        Check.same("P17 the text 5", forty.emboss(5), 206);
    }

    private static void changedAnswersNoneAndTheMost() {
        Dotpress house = houseOfMostLines();
        Check.same("P18 all are new", house.changed(0), 27);
        house.emboss(0);
        Check.same("P18 none", house.changed(0), 0);
        house.setText(0, 1);
        Check.same("P18 all are no more", house.changed(0), 27);
        Dotpress forty = houseOfFortyWords();
        Check.same("P18 the text 0 without words", forty.changed(0), 0);
        Check.same("P18 the text 5", forty.changed(5), 6);
    }

    private static void setBearingTakesTheEnds() {
        Dotpress house = new Dotpress();
        Check.same("P19 the first one", house.setBearing(10), 5000);
        Check.same("P19 lowest", house.setBearing(9999), 10);
        Check.same("P19 highest", house.setBearing(11), 9999);
        Check.same("P19 above the lowest", house.setBearing(9998), 11);
        Check.same("P19 below the highest", house.setBearing(10), 9998);
    }

    private static void pinsHaveEnds() {
        Dotpress house = new Dotpress();
        for (int pin = 1; pin <= 6; pin++) {
            Check.addRule(house, "" + (char) ('a' + pin), 1, 1 << (pin - 1), 0);
        }
        Check.setText(house, 0, 1, "bccdddeeeefffffgggggg");
        house.emboss(0);
        for (int pin = 1; pin <= 6; pin++) {
            Check.same("P21 pin " + pin, house.strikes(pin), pin);
        }
        for (int pin = 1; pin <= 6; pin++) {
            Check.same("P20 pin " + pin, house.replace(pin), pin);
            Check.same("P21 a new one", house.strikes(pin), 0);
            Check.same("P20 a new one", house.replace(pin), 0);
            Check.same("P26 without it", house.meanStrikes(), (21 - pin * (pin + 1) / 2) / 6.0);
        }
    }

    // Promises 22 and 23

    private static void marksHaveEnds() {
        Dotpress house = houseOfFortyWords();
        for (int word : new int[] {0, 39}) {
            Check.same("P23 reader 0, none", house.markOf(0, 5, word), '-');
            Check.same("P23 reader 1, none", house.markOf(1, 5, word), '-');
            Check.same("P22 reader 0", house.mark(0, 5, word, true), false);
            Check.same("P23 reader 0", house.markOf(0, 5, word), 'r');
            Check.same("P23 reader 1, still none", house.markOf(1, 5, word), '-');
            Check.same("P22 reader 1", house.mark(1, 5, word, true), true);
            Check.same("P22 reader 1 unlike", house.mark(1, 5, word, false), false);
            Check.same("P23 reader 1", house.markOf(1, 5, word), 'w');
            Check.same("P22 reader 0 alike", house.mark(0, 5, word, false), true);
        }
        Check.same("P23 beside the first", house.markOf(0, 5, 1), '-');
        Check.same("P23 beside the last", house.markOf(1, 5, 38), '-');
    }

    // Promises 24 to 27

    private static void checksumHasEnds() {
        Check.same("P24 no texts", House.NEW.make().checksum(), 0);
        Check.same("P24 no lines", House.WORDLESS.make().checksum(), 0);
        Dotpress house = sixFullTexts();
        long due = 0;
        for (int i = 0; i < 480; i++) {
            due = 31 * (31 * due + 1) + 2;
        }
        Check.same("P24 as many cells as can be", house.checksum(), due);
    }

    /** A house with six texts of 160 cells each. */
    private static Dotpress sixFullTexts() {
        Dotpress house = new Dotpress();
        Check.addRule(house, "a", 1, 1, 2);
        for (int text = 0; text < 6; text++) {
            Check.setText(house, text, 1, "a".repeat(80));
        }
        return house;
    }

    private static void provedShareHasEnds() {
        Dotpress house = new Dotpress();
        Check.setText(house, 0, 1, "a");
        Check.same("P25 none of one", house.provedShare(), 0f);
        house.mark(0, 0, 0, true);
        Check.same("P25 by reader 0 alone", house.provedShare(), 0f);
        house.mark(1, 0, 0, true);
        Check.same("P25 one of one", house.provedShare(), 1f);
        house.mark(1, 0, 0, false);
        Check.same("P25 wrong for reader 1", house.provedShare(), 0f);
        house.mark(0, 0, 0, false);
        Check.same("P25 wrong for both", house.provedShare(), 0f);
        house.mark(1, 0, 0, true);
        Check.same("P25 wrong for reader 0", house.provedShare(), 0f);
        Dotpress forty = houseOfFortyWords();
        forty.mark(0, 5, 39, true);
        forty.mark(1, 5, 39, true);
        Check.same("P25 one of forty", forty.provedShare(), 1f / 40f);
    }

    private static void meanStrikesHasEnds() {
        Check.same("P26 none", House.NEW.make().meanStrikes(), 0.0);
        Dotpress house = new Dotpress();
        Check.setText(house, 0, 1, "z");
        house.emboss(0);
        Check.same("P26 one of each", house.meanStrikes(), 1.0);
        house.replace(6);
        Check.same("P26 five", house.meanStrikes(), 5.0 / 6.0);
    }

    private static void isSoundWhenEmptyAndFull() {
        for (House house : House.values()) {
            Check.same("P27 " + house, house.make().isSound(), true);
        }
        Check.same("P27 as many cells as can be", sixFullTexts().isSound(), true);
        Check.same("P27 as many lines as can be", houseOfMostLines().isSound(), true);
    }
}
