import java.util.NoSuchElementException;

/** Promises 1 to 8: the new object, the buffer, the rules and the exceptions. */
final class RulesTest {
    private static final String FULL = "abcdefgh ".repeat(9).substring(0, 80);

    public static void main(String[] args) {
        newHouseIsEmpty();
        typeTakesLettersAndBlanks();
        typeStopsAtEighty();
        clearEmptiesTheBuffer();
        rulesStandAsInADictionary();
        addRuleTakesOnlyItsRanges();
        addRuleTakesOneToFourLetters();
        addRuleStopsAtForty();
        addRuleTranslatesAnew();
        mendChangesARule();
        mendCountsTextsWithOtherCells();
        mendTakesOnlyItsRanges();
        removeRuleTakesOneAway();
        removeRuleLeavesTheOthers();
        ruleAtTellsLetters();
        turnExceptionTurns();
        exceptionsUseSingleLetters();
        exceptionsStopAtTwenty();
        exceptionsAreWholeWords();
        Check.end();
    }

    private static void newHouseIsEmpty() {
        Dotpress house = new Dotpress();
        Check.same("P1 buffer", house.clear(), 0);
        Check.same("P1 checksum", house.checksum(), 0);
        Check.same("P1 sound", house.isSound(), true);
        Check.same("P1 mean", house.meanStrikes(), 0.0);
        Check.same("P1 width", house.setWidth(8), 20);
        Check.same("P1 bearing", house.setBearing(10), 5000);
        for (int pin = 1; pin <= 6; pin++) {
            Check.same("P1 pin", house.strikes(pin), 0);
        }
        Check.refuses("P1 rules", IndexOutOfBoundsException.class, () -> house.ruleAt(0, 0));
        Check.refuses("P1 texts", IndexOutOfBoundsException.class, () -> house.words(0));
    }

    private static void typeTakesLettersAndBlanks() {
        Dotpress house = new Dotpress();
        Check.same("P2 first letter", house.type('a'), 1);
        Check.same("P2 last letter", house.type('z'), 2);
        Check.same("P2 blank", house.type(' '), 3);
        char[] others = {'A', 'Z', '`', '{', '0', '-', '\t', '\n', 0, 31, 33, 228, 65535};
        for (char other : others) {
            Check.refuses("P2 sign " + (int) other, IllegalArgumentException.class,
                    () -> house.type(other));
        }
        Check.same("P2 refused signs change nothing", house.type('m'), 4);
    }

    private static void typeStopsAtEighty() {
        Dotpress house = new Dotpress();
        for (int i = 0; i < 80; i++) {
            Check.same("P2 count", house.type(i % 2 == 0 ? 'q' : ' '), i + 1);
        }
        Check.refuses("P2 letter when full", IllegalStateException.class, () -> house.type('a'));
        Check.refuses("P2 blank when full", IllegalStateException.class, () -> house.type(' '));
        Check.refuses("P2 sign when full", IllegalArgumentException.class, () -> house.type('!'));
        Check.same("P2 still 80", house.clear(), 80);
    }

    private static void clearEmptiesTheBuffer() {
        Dotpress house = new Dotpress();
        Check.typeAll(house, "ab c");
        Check.same("P3 how many", house.clear(), 4);
        Check.same("P3 then none", house.clear(), 0);
        Check.same("P3 type again", house.type('x'), 1);
        Check.typeAll(house, "y");
        house.addRule(1, 1, 0);
        Check.same("P3 rule of new letters", Check.lettersOf(house, 0), "xy");
    }

    private static void rulesStandAsInADictionary() {
        Dotpress house = new Dotpress();
        Check.same("P4 b", Check.addRule(house, "b", 1, 1, 0), 0);
        Check.same("P4 ab", Check.addRule(house, "ab", 2, 2, 0), 0);
        Check.same("P4 a", Check.addRule(house, "a", 1, 63, 63), 0);
        Check.same("P4 abzz", Check.addRule(house, "abzz", 2, 4, 0), 2);
        Check.same("P4 abz", Check.addRule(house, "abz", 1, 5, 0), 2);
        Check.same("P4 ac", Check.addRule(house, "ac", 1, 6, 0), 4);
        Check.same("P4 z", Check.addRule(house, "z", 1, 7, 0), 6);
        Check.same("P4 azzz", Check.addRule(house, "azzz", 1, 8, 0), 5);
        Check.same("P4 aaaa", Check.addRule(house, "aaaa", 1, 9, 0), 1);
        Check.same("P4 order", Check.rulesOf(house, 9), "a aaaa ab abz abzz ac azzz b z");
        Check.same("P4 buffer is empty then", house.clear(), 0);
    }

    private static void addRuleTakesOnlyItsRanges() {
        Dotpress house = new Dotpress();
        Check.typeAll(house, "a");
        int[][] others = {{0, 1, 0}, {3, 1, 0}, {-1, 1, 0}, {1, 0, 0}, {1, 64, 0}, {1, -1, 0},
            {1, 1, -1}, {1, 1, 64}, {1, 0, 5}, {Integer.MAX_VALUE, 1, 0},
            {1, Integer.MIN_VALUE, 0}};
        for (int[] o : others) {
            Check.refuses("P4 " + o[0] + " " + o[1] + " " + o[2], IllegalArgumentException.class,
                    () -> house.addRule(o[0], o[1], o[2]));
        }
        Check.same("P4 the letters stay", house.addRule(2, 63, 63), 0);
        Check.same("P4 lowest cells", Check.addRule(house, "b", 1, 1, 1), 1);
        Check.typeAll(house, "a");
        Check.refuses("P4 number ahead of same letters", IllegalArgumentException.class,
                () -> house.addRule(3, 1, 0));
        Check.refuses("P4 same letters", UnsupportedOperationException.class,
                () -> house.addRule(1, 1, 0));
        Check.same("P4 the letters stay again", house.clear(), 1);
        Check.same("P4 the first cell stays", Check.setText(house, 0, 2, "a"), 1);
        Check.same("P4 the second cell stays", Check.cellsOf(house, 0, 0), "63,63");
    }

    private static void addRuleTakesOneToFourLetters() {
        Dotpress house = new Dotpress();
        for (String letters : new String[] {"", " ", "abcde", "a b", " a", "a ", "    "}) {
            Check.typeAll(house, letters);
            Check.refuses("P4 [" + letters + "]", IllegalArgumentException.class,
                    () -> house.addRule(1, 1, 0));
            Check.same("P4 kept [" + letters + "]", house.clear(), letters.length());
        }
        Check.same("P4 four letters", Check.addRule(house, "abcd", 1, 1, 0), 0);
        Check.typeAll(house, FULL);
        Check.refuses("P4 80 letters", IllegalArgumentException.class,
                () -> house.addRule(1, 1, 0));
    }

    private static void addRuleStopsAtForty() {
        Dotpress house = new Dotpress();
        for (int i = 0; i < 40; i++) {
            Check.addRule(house, "" + (char) ('a' + i % 20) + (char) ('a' + i / 20), 1, 1, 0);
        }
        Check.typeAll(house, "aa");
        Check.refuses("P4 full ahead of same letters", IllegalStateException.class,
                () -> house.addRule(1, 1, 0));
        Check.refuses("P4 number ahead of full", IllegalArgumentException.class,
                () -> house.addRule(0, 1, 0));
        house.clear();
        Check.refuses("P4 no letters ahead of full", IllegalArgumentException.class,
                () -> house.addRule(1, 1, 0));
        Check.same("P4 full rules are sound", house.isSound(), true);
        Check.same("P6 39 are left", house.removeRule(39), 39);
        Check.same("P4 room again", Check.addRule(house, "zzzz", 1, 1, 0), 39);
    }

    private static void addRuleTranslatesAnew() {
        Dotpress house = new Dotpress();
        Check.setText(house, 0, 1, "abab");
        Check.same("P4 no rules", Check.cellsOf(house, 0, 0), "63,63,63,63");
        Check.addRule(house, "ab", 2, 9, 0);
        Check.same("P4 a higher grade", Check.cellsOf(house, 0, 0), "63,63,63,63");
        Check.addRule(house, "ba", 1, 5, 6);
        Check.same("P4 from the left", Check.cellsOf(house, 0, 0), "63,5,6,63");
    }

    private static void mendChangesARule() {
        Dotpress house = new Dotpress();
        Check.addRule(house, "a", 1, 1, 2);
        Check.setText(house, 0, 1, "aa");
        Check.same("P5 two cells to one", Check.mend(house, "a", 1, 3, 0), 1);
        Check.same("P5 cells", Check.cellsOf(house, 0, 0), "3,3");
        Check.same("P5 buffer is empty then", house.clear(), 0);
        Check.same("P5 grade", Check.mend(house, "a", 2, 3, 0), 1);
        Check.same("P5 without a rule", Check.cellsOf(house, 0, 0), "63,63");
        Check.same("P5 the same again", Check.mend(house, "a", 2, 3, 0), 0);
        Check.same("P5 unused", Check.mend(house, "a", 2, 44, 0), 0);
        Check.same("P5 second alone", Check.mend(house, "a", 1, 44, 9), 1);
        Check.same("P5 both cells", Check.cellsOf(house, 0, 0), "44,9,44,9");
    }

    private static void mendCountsTextsWithOtherCells() {
        Dotpress house = new Dotpress();
        Check.addRule(house, "a", 1, 1, 0);
        Check.addRule(house, "ab", 2, 2, 0);
        Check.setText(house, 0, 1, "ab ab a");
        Check.setText(house, 1, 2, "ab ab");
        Check.setText(house, 2, 2, "b b ba");
        Check.setText(house, 3, 2, "");
        Check.same("P5 a in two texts", Check.mend(house, "a", 1, 4, 0), 2);
        Check.same("P5 ab in one", Check.mend(house, "ab", 2, 5, 0), 1);
        Check.same("P5 ab for all grades", Check.mend(house, "ab", 1, 5, 0), 1);
        Check.same("P5 a where ab is not", Check.mend(house, "a", 1, 5, 5), 2);
    }

    private static void mendTakesOnlyItsRanges() {
        Dotpress house = new Dotpress();
        Check.addRule(house, "a", 1, 1, 0);
        Check.typeAll(house, "a");
        int[][] others = {{0, 1, 0}, {3, 1, 0}, {1, 0, 0}, {1, 64, 0}, {1, 1, -1}, {1, 1, 64}};
        for (int[] o : others) {
            Check.refuses("P5 " + o[0] + " " + o[1] + " " + o[2], IllegalArgumentException.class,
                    () -> house.mend(o[0], o[1], o[2]));
        }
        Check.same("P5 the letters stay", house.mend(1, 1, 0), 0);
        for (String letters : new String[] {"", "b", "aa", "a ", " a", " ", "aaaaa"}) {
            Check.typeAll(house, letters);
            Check.refuses("P5 [" + letters + "]", NoSuchElementException.class,
                    () -> house.mend(1, 1, 0));
            Check.refuses("P5 number ahead [" + letters + "]", IllegalArgumentException.class,
                    () -> house.mend(1, 64, 0));
            Check.same("P5 kept [" + letters + "]", house.clear(), letters.length());
        }
    }

    private static void removeRuleTakesOneAway() {
        Dotpress house = new Dotpress();
        Check.addRule(house, "a", 1, 1, 0);
        Check.addRule(house, "ab", 1, 2, 0);
        Check.addRule(house, "b", 1, 3, 4);
        Check.setText(house, 0, 1, "abab");
        Check.typeAll(house, "xy");
        for (int place : new int[] {-1, 3, Integer.MIN_VALUE, Integer.MAX_VALUE}) {
            Check.refuses("P6 " + place, IndexOutOfBoundsException.class,
                    () -> house.removeRule(place));
        }
        Check.same("P6 two are left", house.removeRule(1), 2);
        Check.same("P6 order", Check.rulesOf(house, 2), "a b");
        Check.same("P6 translated anew", Check.cellsOf(house, 0, 0), "1,3,4,1,3,4");
        Check.same("P6 the buffer stays", house.clear(), 2);
        Check.same("P6 one is left", house.removeRule(0), 1);
        Check.same("P6 the other's cells stay", Check.cellsOf(house, 0, 0), "63,3,4,63,3,4");
        Check.same("P6 none is left", house.removeRule(0), 0);
        Check.same("P6 no rules", Check.cellsOf(house, 0, 0), "63,63,63,63");
        Check.refuses("P6 none", IndexOutOfBoundsException.class, () -> house.removeRule(0));
    }

    private static void removeRuleLeavesTheOthers() {
        Dotpress house = new Dotpress();
        Check.addRule(house, "a", 1, 1, 0);
        Check.addRule(house, "b", 2, 2, 0);
        Check.addRule(house, "c", 1, 3, 4);
        Check.addRule(house, "d", 2, 5, 6);
        Check.setText(house, 0, 1, "abcd");
        Check.setText(house, 1, 2, "abcd");
        house.removeRule(0);
        Check.same("P6 grade 1", Check.cellsOf(house, 0, 0), "63,63,3,4,63");
        Check.same("P6 grade 2", Check.cellsOf(house, 1, 0), "63,2,3,4,5,6");
        house.removeRule(1);
        Check.same("P6 grade 1 again", Check.cellsOf(house, 0, 0), "63,63,63,63");
        Check.same("P6 grade 2 again", Check.cellsOf(house, 1, 0), "63,2,63,5,6");
    }

    private static void ruleAtTellsLetters() {
        Dotpress house = new Dotpress();
        Check.addRule(house, "azby", 1, 1, 0);
        Check.addRule(house, "z", 1, 1, 0);
        Check.same("P7 0", house.ruleAt(0, 0), 'a');
        Check.same("P7 1", house.ruleAt(0, 1), 'z');
        Check.same("P7 2", house.ruleAt(0, 2), 'b');
        Check.same("P7 3", house.ruleAt(0, 3), 'y');
        Check.same("P7 short", house.ruleAt(1, 0), 'z');
        for (int index : new int[] {-1, 4, 5, Integer.MIN_VALUE, Integer.MAX_VALUE}) {
            Check.refuses("P7 index " + index, NoSuchElementException.class,
                    () -> house.ruleAt(0, index));
            Check.refuses("P7 place ahead of index " + index, IndexOutOfBoundsException.class,
                    () -> house.ruleAt(2, index));
        }
        Check.refuses("P7 behind a short one", NoSuchElementException.class,
                () -> house.ruleAt(1, 1));
        Check.refuses("P7 place -1", IndexOutOfBoundsException.class, () -> house.ruleAt(-1, 0));
    }

    private static void turnExceptionTurns() {
        Dotpress house = new Dotpress();
        for (String letters : new String[] {"", " ", "a b", " ab", "ab "}) {
            Check.typeAll(house, letters);
            Check.refuses("P8 [" + letters + "]", IllegalArgumentException.class,
                    house::turnException);
            Check.same("P8 kept [" + letters + "]", house.clear(), letters.length());
        }
        Check.same("P8 on", Check.turnException(house, "ab"), true);
        Check.same("P8 buffer is empty then", house.clear(), 0);
        Check.same("P8 another on", Check.turnException(house, "abc"), true);
        Check.same("P8 off", Check.turnException(house, "ab"), false);
        Check.same("P8 buffer is empty again", house.clear(), 0);
        Check.same("P8 on again", Check.turnException(house, "ab"), true);
        Check.same("P8 the other off", Check.turnException(house, "abc"), false);
        Check.same("P8 80 letters", Check.turnException(house, "x".repeat(80)), true);
        Check.same("P8 79 letters", Check.turnException(house, "x".repeat(79)), true);
        Check.same("P8 80 letters off", Check.turnException(house, "x".repeat(80)), false);
    }

    private static void exceptionsUseSingleLetters() {
        Dotpress house = new Dotpress();
        Check.addRule(house, "a", 1, 1, 0);
        Check.addRule(house, "b", 2, 2, 0);
        Check.addRule(house, "ab", 1, 3, 0);
        Check.setText(house, 0, 1, "ab aab");
        Check.setText(house, 1, 2, "ab");
        Check.same("P8 long rule", Check.cellsOf(house, 0, 0), "3");
        Check.turnException(house, "ab");
        Check.same("P8 single letters of the grade", Check.cellsOf(house, 0, 0), "1,63");
        Check.same("P8 single letters of grade 2", Check.cellsOf(house, 1, 0), "1,2");
        Check.same("P8 another word", Check.cellsOf(house, 0, 1), "1,3");
        Check.setText(house, 2, 2, "ab b");
        Check.same("P8 a later text", Check.cellsOf(house, 2, 0), "1,2");
        Check.turnException(house, "ab");
        Check.same("P8 long rule again", Check.cellsOf(house, 0, 0), "3");
        Check.same("P8 long rule again in grade 2", Check.cellsOf(house, 1, 0), "3");
    }

    private static void exceptionsStopAtTwenty() {
        Dotpress house = new Dotpress();
        for (int i = 0; i < 20; i++) {
            Check.same("P8 on " + i, Check.turnException(house, "w" + (char) ('a' + i)), true);
        }
        Check.typeAll(house, "no");
        Check.refuses("P8 full", IllegalStateException.class, house::turnException);
        Check.same("P8 the letters stay", house.clear(), 2);
        Check.refuses("P8 no letters ahead of full", IllegalArgumentException.class,
                house::turnException);
        Check.same("P8 off when full", Check.turnException(house, "wc"), false);
        Check.same("P8 room again", Check.turnException(house, "no"), true);
        Check.same("P8 the last one off", Check.turnException(house, "wt"), false);
        Check.same("P8 the first one off", Check.turnException(house, "wa"), false);
        Check.same("P8 the new one off", Check.turnException(house, "no"), false);
        Check.same("P8 a middle one off", Check.turnException(house, "wk"), false);
    }

    private static void exceptionsAreWholeWords() {
        Dotpress house = new Dotpress();
        Check.addRule(house, "ab", 1, 3, 0);
        Check.setText(house, 0, 1, "ab abab abb bab");
        Check.turnException(house, "ab");
        Check.same("P8 the word", Check.cellsOf(house, 0, 0), "63,63");
        Check.same("P8 twice", Check.cellsOf(house, 0, 1), "3,3");
        Check.same("P8 longer", Check.cellsOf(house, 0, 2), "3,63");
        Check.same("P8 behind", Check.cellsOf(house, 0, 3), "63,3");
    }
}
