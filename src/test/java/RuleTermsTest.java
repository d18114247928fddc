/** The boundaries that "Terms" names of letters, cells, rules, exceptions and translation. */
final class RuleTermsTest {
    public static void main(String[] args) {
        lettersAreThoseFromAToZ();
        bufferHoldsEighty();
        wordsAreAsLongAsTheyCanBe();
        cellsHaveSixDots();
        blankCellHasNoDots();
        atMostFortyRules();
        shorterRulesStandAhead();
        rulesHaveOneToFourLetters();
        secondCellIsPerhaps();
        noTwoRulesHaveTheSameLetters();
        exceptionsUseSingleLettersAlone();
        atMostTwentyExceptions();
        longestRuleIsUsed();
        rulesDoNotReachBeyondTheWord();
        translationGoesOnBehindTheLetters();
        gradeIsNotAboveThatOfTheText();
        withoutRuleSixtyThree();
        oneBlankBetweenWords();
        Check.end();
    }

    private static void lettersAreThoseFromAToZ() {
        int taken = 0;
        for (int block = 0; block < 65536; block += 256) {
            Dotpress house = new Dotpress();
            for (int sign = block; sign < block + 256; sign++) {
                try {
                    house.type((char) sign);
                    boolean isDue = sign == ' ' || sign >= 'a' && sign <= 'z';
                    Check.same("sign " + sign + " is taken", isDue, true);
                    taken++;
                } catch (IllegalArgumentException refused) {
                    continue;
                }
            }
        }
        Check.same("signs that are taken", taken, 27);
    }

    private static void bufferHoldsEighty() {
        for (String sign : new String[] {"a", "z", " "}) {
            Dotpress house = House.NEW.makeWith(sign.repeat(79));
            Check.same("the eightieth [" + sign + "]", house.type('m'), 80);
            Check.refuses("the next [" + sign + "]", IllegalStateException.class,
                    () -> house.type('m'));
            Check.same("room again [" + sign + "]", house.clear(), 80);
            Check.same("the first again [" + sign + "]", house.type('m'), 1);
        }
    }

    private static void wordsAreAsLongAsTheyCanBe() {
        Dotpress house = new Dotpress();
        Check.same("one word", Check.setText(house, 0, 1, "z".repeat(80)), 1);
        Check.same("of eighty letters", house.length(0, 0), 80);
        Check.same("two words", Check.setText(house, 0, 1, "z".repeat(78) + " z"), 2);
        Check.same("of 78 letters", house.length(0, 0), 78);
        Check.same("of one letter", house.length(0, 1), 1);
        Check.same("blanks round", Check.setText(house, 0, 1, " az "), 1);
        Check.same("of two letters", house.length(0, 0), 2);
    }

    private static void cellsHaveSixDots() {
        for (int cell = 1; cell <= 63; cell++) {
            Dotpress house = new Dotpress();
            Check.addRule(house, "a", 1, cell, 0);
            Check.addRule(house, "b", 1, 1, cell);
            Check.setText(house, 0, 1, "a");
            Check.setText(house, 1, 1, "b");
            Check.same("first cell " + cell, house.cellOf(0, 0, 0), cell);
            Check.same("second cell " + cell, house.cellOf(1, 0, 1), cell);
            house.emboss(0);
            for (int pin = 1; pin <= 6; pin++) {
                int due = cell / (1 << (pin - 1)) % 2;
                Check.same("cell " + cell + ", pin " + pin, house.strikes(pin), due);
            }
        }
    }

    private static void blankCellHasNoDots() {
        Dotpress house = new Dotpress();
        Check.addRule(house, "a", 1, 32, 0);
        Check.setText(house, 0, 1, "a a a");
        Check.same("three letters", house.emboss(0), 101);
        Check.same("dot 6", house.strikes(6), 3);
        Check.same("all dots", house.meanStrikes(), 3 / 6.0);
    }

    private static void atMostFortyRules() {
        Dotpress house = new Dotpress();
        for (int i = 0; i < 40; i++) {
            Check.same("rule " + i, Check.addRule(house, House.fullRule(i), 1, 1 + i, 0), i);
        }
        Check.typeAll(house, "zz");
        Check.refuses("one more", IllegalStateException.class, () -> house.addRule(1, 1, 0));
        Check.same("39 are left", house.removeRule(20), 39);
        Check.same("the fortieth", house.addRule(1, 41, 0), 39);
        Check.same("the last rule", Check.lettersOf(house, 39), "zz");
        Check.typeAll(house, "zy");
        Check.refuses("one more again", IllegalStateException.class, () -> house.addRule(1, 1, 0));
        house.clear();
        Check.setText(house, 0, 1, "azzzazn");
        Check.same("all are used", Check.cellsOf(house, 0, 0), "1,41,27,40");
    }

    private static void shorterRulesStandAhead() {
        String due = "a aa aaa aaaa aaab aab ab az azzz b ba by bz z za zz zzz zzzz";
        String[] letters = due.split(" ");
        for (int step : new int[] {1, 5, 7, 11, 17}) {
            Dotpress house = new Dotpress();
            for (int i = 0; i < letters.length; i++) {
                Check.addRule(house, letters[i * step % letters.length], 1, 1, 0);
                Check.same("sound with " + i, house.isSound(), true);
            }
            Check.same("step " + step, Check.rulesOf(house, letters.length), due);
        }
        Dotpress house = new Dotpress();
        Check.same("abc", Check.addRule(house, "abc", 1, 1, 0), 0);
        Check.same("ab ahead", Check.addRule(house, "ab", 1, 1, 0), 0);
        Check.same("abca behind", Check.addRule(house, "abca", 1, 1, 0), 2);
        Check.same("aczz behind", Check.addRule(house, "aczz", 1, 1, 0), 3);
        Check.same("aazz ahead", Check.addRule(house, "aazz", 1, 1, 0), 0);
    }

    private static void rulesHaveOneToFourLetters() {
        for (int size = 0; size <= 6; size++) {
            Dotpress house = House.NEW.makeWith("z".repeat(size));
            if (size >= 1 && size <= 4) {
                Check.same("letters: " + size, house.addRule(1, 1, 0), 0);
                Check.same("all of them", Check.lettersOf(house, 0).length(), size);
            } else {
                Check.refuses("letters: " + size, IllegalArgumentException.class,
                        () -> house.addRule(1, 1, 0));
            }
        }
    }

    private static void secondCellIsPerhaps() {
        Dotpress house = new Dotpress();
        Check.addRule(house, "a", 1, 63, 0);
        Check.addRule(house, "b", 1, 1, 63);
        Check.setText(house, 0, 1, "ab ba");
        Check.same("one and two", Check.cellsOf(house, 0, 0), "63,1,63");
        Check.same("two and one", Check.cellsOf(house, 0, 1), "1,63,63");
        Check.mend(house, "a", 1, 63, 1);
        Check.mend(house, "b", 1, 1, 0);
        Check.same("two and one then", Check.cellsOf(house, 0, 0), "63,1,1");
        Check.same("one and two then", Check.cellsOf(house, 0, 1), "1,63,1");
    }

    private static void noTwoRulesHaveTheSameLetters() {
        Dotpress house = new Dotpress();
        for (String letters : new String[] {"abab", "aba", "ab", "a", "ba", "abac", "bab", "aa"}) {
            Check.addRule(house, letters, 1, 1, 0);
            Check.typeAll(house, letters);
            Check.refuses("once more " + letters, UnsupportedOperationException.class,
                    () -> house.addRule(2, 2, 2));
            house.clear();
        }
        Check.same("all others", Check.rulesOf(house, 8), "a aa ab aba abab abac ba bab");
        house.removeRule(4);
        Check.same("again when gone", Check.addRule(house, "abab", 1, 1, 0), 4);
    }

    private static void exceptionsUseSingleLettersAlone() {
        Dotpress house = new Dotpress();
        Check.addRule(house, "a", 1, 1, 0);
        Check.addRule(house, "aa", 1, 2, 0);
        Check.addRule(house, "aaa", 1, 3, 0);
        Check.addRule(house, "aaaa", 1, 4, 0);
        Check.setText(house, 0, 1, "a aa aaa aaaa aaaaa bb");
        for (String word : new String[] {"a", "aa", "aaa", "aaaa", "aaaaa", "bb"}) {
            Check.turnException(house, word);
        }
        String[] due = {"1", "1,1", "1,1,1", "1,1,1,1", "1,1,1,1,1", "63,63"};
        for (int word = 0; word < due.length; word++) {
            Check.same("exception " + word, Check.cellsOf(house, 0, word), due[word]);
        }
        Check.turnException(house, "aaaa");
        Check.same("no more", Check.cellsOf(house, 0, 3), "4");
        Check.same("one more letter", Check.cellsOf(house, 0, 4), "1,1,1,1,1");
        Check.same("one letter less", Check.cellsOf(house, 0, 2), "1,1,1");
    }

    private static void atMostTwentyExceptions() {
        Dotpress house = new Dotpress();
        Check.addRule(house, "x", 1, 1, 0);
        for (int i = 0; i < 26; i++) {
            Check.typeAll(house, House.fullException(i));
            if (i < 20) {
                Check.same("exception " + i, house.turnException(), true);
            } else {
                Check.refuses("exception " + i, IllegalStateException.class, house::turnException);
                Check.same("its letters stay", house.clear(), 2);
            }
        }
        for (int i = 0; i < 20; i++) {
            Check.same("off " + i, Check.turnException(house, House.fullException(i)), false);
        }
        Check.same("on again", Check.turnException(house, "xz"), true);
    }

    private static void longestRuleIsUsed() {
        String[] letters = {"a", "ab", "abc", "abcd"};
        for (int first = 0; first < 4; first++) {
            Dotpress house = new Dotpress();
            Check.setText(house, 0, 1, "abcd abc ab a abcdabcaba");
            for (int i = 0; i < 4; i++) {
                int rule = (first + i) % 4;
                Check.addRule(house, letters[rule], 1, rule + 1, 0);
            }
            Check.same("lines", Check.linesOf(house, 0), "4,0,3,0,2,0,1,0,4,3,2,1");
            house.removeRule(3);
            Check.same("without the longest", Check.linesOf(house, 0),
                    "3,63,0,3,0,2,0,1,0,3,63,3,2,1");
            house.removeRule(1);
            Check.same("without the middle one", Check.linesOf(house, 0),
                    "3,63,0,3,0,1,63,0,1,0,3,63,3,1,63,1");
        }
    }

    private static void rulesDoNotReachBeyondTheWord() {
        Dotpress house = new Dotpress();
        Check.addRule(house, "ab", 1, 1, 0);
        Check.addRule(house, "bcde", 1, 2, 0);
        Check.addRule(house, "cde", 1, 3, 0);
        Check.setText(house, 0, 1, "a b abcd e abcde bcde abc de");
        Check.same("within words alone", Check.linesOf(house, 0),
                "63,0,63,0,1,63,63,0,63,0,1,3,0,2,0,1,63,0,63,63");
        Check.setText(house, 0, 1, "abcde");
        Check.same("up to its end", Check.linesOf(house, 0), "1,3");
        Check.setText(house, 0, 1, "abc");
        Check.same("not to letters typed before", Check.linesOf(house, 0), "1,63");
    }

    private static void translationGoesOnBehindTheLetters() {
        Dotpress house = new Dotpress();
        Check.addRule(house, "aba", 1, 1, 0);
        Check.addRule(house, "ba", 1, 2, 0);
        Check.addRule(house, "bb", 1, 3, 0);
        Check.setText(house, 0, 1, "ababa bbb aabab abababa");
        Check.same("the middle is used once", Check.cellsOf(house, 0, 0), "1,2");
        Check.same("a rest of one", Check.cellsOf(house, 0, 1), "3,63");
        Check.same("one without a rule ahead", Check.cellsOf(house, 0, 2), "63,1,63");
        Check.same("seven letters", Check.cellsOf(house, 0, 3), "1,2,2");
    }

    private static void gradeIsNotAboveThatOfTheText() {
        for (int rule = 1; rule <= 2; rule++) {
            for (int text = 1; text <= 2; text++) {
                Dotpress house = new Dotpress();
                Check.addRule(house, "a", 1, 1, 0);
                Check.addRule(house, "aa", rule, 2, 0);
                Check.setText(house, 0, text, "aa");
                String due = rule > text ? "1,1" : "2";
                Check.same("rule " + rule + ", text " + text, Check.cellsOf(house, 0, 0), due);
                Check.turnException(house, "aa");
                Check.mend(house, "a", rule, 1, 0);
                String single = rule > text ? "63,63" : "1,1";
                Check.same("exception " + rule + " " + text, Check.cellsOf(house, 0, 0), single);
            }
        }
    }

    private static void withoutRuleSixtyThree() {
        Dotpress house = new Dotpress();
        Check.setText(house, 0, 2, "abz");
        Check.same("no rules", Check.cellsOf(house, 0, 0), "63,63,63");
        Check.addRule(house, "z", 1, 1, 0);
        Check.addRule(house, "bb", 1, 2, 0);
        Check.same("one cell for one letter", Check.cellsOf(house, 0, 0), "63,63,1");
    }

    private static void oneBlankBetweenWords() {
        Dotpress house = new Dotpress();
        Check.addRule(house, "a", 1, 1, 0);
        for (String letters : new String[] {"a a", "a  a", " a a", "a a ", "   a    a   "}) {
            Check.setText(house, 0, 1, letters);
            Check.same("[" + letters + "]", Check.linesOf(house, 0), "1,0,1");
        }
        Check.setText(house, 0, 1, "a" + " ".repeat(78) + "a");
        Check.same("78 blanks", Check.linesOf(house, 0), "1,0,1");
    }
}
