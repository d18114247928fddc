/** Promises 22, 23 and 25: the marks of the two readers, and the share they proved. */
final class ProofsTest {
    private static final int[] FAR = {-1, Integer.MIN_VALUE, Integer.MAX_VALUE};

    public static void main(String[] args) {
        markTellsAgreement();
        markReplacesOwnMark();
        marksAreOfOneWord();
        marksGoWithTheCells();
        marksStayWithTheCells();
        marksGoWhenTypedAnew();
        readersTextsAndWordsAreChecked();
        provedShareCountsBothRight();
        provedShareNeedsWords();
        Check.end();
    }

    private static String marksOf(Dotpress house, int text) {
        StringBuilder marks = new StringBuilder();
        for (int word = 0; word < house.words(text); word++) {
            marks.append(house.markOf(0, text, word)).append(house.markOf(1, text, word));
        }
        return marks.toString();
    }

    private static Dotpress houseWith(String letters) {
        Dotpress house = new Dotpress();
        Check.addRule(house, "a", 1, 1, 0);
        Check.setText(house, 0, 1, letters);
        return house;
    }

    private static void markTellsAgreement() {
        Dotpress house = houseWith("a a a a");
        Check.same("P22 alone", house.mark(0, 0, 0, true), false);
        Check.same("P22 both right", house.mark(1, 0, 0, true), true);
        Check.same("P22 wrong alone", house.mark(1, 0, 1, false), false);
        Check.same("P22 both wrong", house.mark(0, 0, 1, false), true);
        Check.same("P22 right", house.mark(0, 0, 2, true), false);
        Check.same("P22 unlike", house.mark(1, 0, 2, false), false);
        Check.same("P23 all", marksOf(house, 0), "rrwwrw--");
    }

    private static void markReplacesOwnMark() {
        Dotpress house = houseWith("a");
        house.mark(0, 0, 0, true);
        Check.same("P22 once more", house.mark(0, 0, 0, true), false);
        Check.same("P22 the other one", house.mark(0, 0, 0, false), false);
        Check.same("P23", marksOf(house, 0), "w-");
        Check.same("P22 unlike", house.mark(1, 0, 0, true), false);
        Check.same("P22 then likewise", house.mark(0, 0, 0, true), true);
        Check.same("P23 both", marksOf(house, 0), "rr");
    }

    private static void marksAreOfOneWord() {
        Dotpress house = houseWith("a a a");
        Check.setText(house, 1, 1, "a a a");
        house.mark(0, 0, 1, true);
        house.mark(1, 1, 2, false);
        Check.same("P23 text 0", marksOf(house, 0), "--r---");
        Check.same("P23 text 1", marksOf(house, 1), "-----w");
        Dotpress full = houseWith("a ".repeat(40));
        for (int word = 0; word < 40; word++) {
            full.mark(word % 2, 0, word, word % 3 == 0);
        }
        for (int word = 0; word < 40; word++) {
            char due = word % 3 == 0 ? 'r' : 'w';
            Check.same("P23 own " + word, full.markOf(word % 2, 0, word), due);
            Check.same("P23 other " + word, full.markOf(1 - word % 2, 0, word), '-');
        }
    }

    private static void markAll(Dotpress house) {
        for (int word = 0; word < house.words(0); word++) {
            house.mark(0, 0, word, true);
            house.mark(1, 0, word, false);
        }
    }

    private static void marksGoWithTheCells() {
        Dotpress house = houseWith("ab a b");
        markAll(house);
        Check.mend(house, "a", 1, 2, 0);
        Check.same("P23 mend", marksOf(house, 0), "----rw");
        Check.mend(house, "a", 1, 1, 0);
        Check.same("P23 the cells again", marksOf(house, 0), "----rw");
        markAll(house);
        Check.addRule(house, "ab", 1, 5, 0);
        Check.same("P23 addRule", marksOf(house, 0), "--rwrw");
        markAll(house);
        Check.turnException(house, "ab");
        Check.same("P23 exception", marksOf(house, 0), "--rwrw");
        markAll(house);
        Check.turnException(house, "ab");
        Check.same("P23 exception no more", marksOf(house, 0), "--rwrw");
        markAll(house);
        house.removeRule(0);
        Check.same("P23 removeRule of an unused rule", marksOf(house, 0), "rw--rw");
        markAll(house);
        house.removeRule(0);
        Check.same("P23 removeRule", marksOf(house, 0), "--rwrw");
    }

    private static void marksStayWithTheCells() {
        Dotpress house = houseWith("ab a b");
        markAll(house);
        Check.mend(house, "a", 1, 1, 0);
        house.setWidth(8);
        house.emboss(0);
        Check.addRule(house, "b", 1, 63, 0);
        Check.addRule(house, "ab", 1, 1, 63);
        Check.turnException(house, "ab");
        house.removeRule(2);
        Check.setText(house, 1, 1, "ab a b");
        Check.same("P23 the same cells", marksOf(house, 0), "rwrwrw");
    }

    private static void marksGoWhenTypedAnew() {
        Dotpress house = houseWith("ab a b");
        markAll(house);
        Check.setText(house, 0, 1, "ab a b");
        Check.same("P23 typed anew", marksOf(house, 0), "------");
        markAll(house);
        Check.setText(house, 0, 1, "ab");
        Check.setText(house, 0, 1, "ab a b");
        Check.same("P23 typed anew twice", marksOf(house, 0), "------");
    }

    private static void readersTextsAndWordsAreChecked() {
        Dotpress house = houseWith("a a");
        int[][] others = {{2, 0, 0}, {-1, 0, 0}, {0, 1, 0}, {0, 0, 2}, {1, -1, 0}, {1, 0, -1}};
        for (int[] o : others) {
            String what = o[0] + " " + o[1] + " " + o[2];
            Check.refuses("P22 " + what, IndexOutOfBoundsException.class,
                    () -> house.mark(o[0], o[1], o[2], true));
            Check.refuses("P23 " + what, IndexOutOfBoundsException.class,
                    () -> house.markOf(o[0], o[1], o[2]));
        }
        for (int far : FAR) {
            Check.refuses("P22 reader " + far, IndexOutOfBoundsException.class,
                    () -> house.mark(far, 0, 0, true));
            Check.refuses("P22 text " + far, IndexOutOfBoundsException.class,
                    () -> house.mark(0, far, 0, true));
            Check.refuses("P22 word " + far, IndexOutOfBoundsException.class,
                    () -> house.mark(0, 0, far, true));
            Check.refuses("P23 reader " + far, IndexOutOfBoundsException.class,
                    () -> house.markOf(far, 0, 0));
            Check.refuses("P23 text " + far, IndexOutOfBoundsException.class,
                    () -> house.markOf(0, far, 0));
            Check.refuses("P23 word " + far, IndexOutOfBoundsException.class,
                    () -> house.markOf(0, 0, far));
        }
        Check.same("P23 nothing marked", marksOf(house, 0), "----");
    }

    private static void provedShareCountsBothRight() {
        Dotpress house = houseWith("a a a");
        Check.same("P25 none", house.provedShare(), 0f);
        house.mark(0, 0, 0, true);
        house.mark(1, 0, 1, true);
        Check.same("P25 one reader each", house.provedShare(), 0f);
        house.mark(1, 0, 0, true);
        Check.same("P25 one", house.provedShare(), 1f / 3f);
        house.mark(0, 0, 2, false);
        house.mark(1, 0, 2, false);
        Check.same("P25 both wrong", house.provedShare(), 1f / 3f);
        Check.setText(house, 1, 1, "a a a a");
        Check.same("P25 of all texts", house.provedShare(), 1f / 7f);
        house.mark(0, 1, 3, true);
        house.mark(1, 1, 3, true);
        Check.same("P25 in both texts", house.provedShare(), 2f / 7f);
        Check.setText(house, 1, 1, "a");
        Check.same("P25 typed anew", house.provedShare(), 1f / 4f);
        Check.mend(house, "a", 1, 2, 0);
        Check.same("P25 other cells", house.provedShare(), 0f);
    }

    private static void provedShareNeedsWords() {
        Dotpress house = new Dotpress();
        Check.refuses("P25 no texts", ArithmeticException.class, house::provedShare);
        Check.setText(house, 0, 1, "  ");
        Check.refuses("P25 no words", ArithmeticException.class, house::provedShare);
        Check.setText(house, 1, 1, "a");
        house.mark(0, 1, 0, true);
        house.mark(1, 1, 0, true);
        Check.same("P25 all", house.provedShare(), 1f);
        Check.setText(house, 1, 1, "");
        Check.refuses("P25 no words again", ArithmeticException.class, house::provedShare);
    }
}
