import java.lang.reflect.Field;
import java.lang.reflect.Method;

/** Promises 24, 26 and 27: the checksum, the mean strikes, and whether all is sound. */
final class FiguresTest {
    public static void main(String[] args) throws ReflectiveOperationException {
        checksumGoesOverAllLines();
        checksumWrapsRound();
        meanIsOfSixPins();
        soundInEveryState();
        unsoundWhenALineIsTooWide();
        unsoundWhenRulesAreNotInOrder();
        unsoundWhenLinesHaveOtherCells();
        Check.end();
    }

    private static void checksumGoesOverAllLines() {
        Dotpress house = new Dotpress();
        Check.addRule(house, "a", 1, 2, 0);
        Check.addRule(house, "b", 1, 5, 0);
        Check.setText(house, 0, 1, "");
        Check.same("P24 no cells", house.checksum(), 0);
        Check.setText(house, 0, 1, "a");
        Check.same("P24 one cell", house.checksum(), 2);
        Check.setText(house, 1, 1, "ab");
        Check.same("P24 two texts", house.checksum(), (2 * 31 + 2) * 31 + 5);
        Check.setText(house, 0, 1, "a b");
        Check.same("P24 with a blank", house.checksum(),
                (((2 * 31 + 0) * 31 + 5) * 31 + 2) * 31 + 5);
        Check.setText(house, 1, 1, "");
        Check.setText(house, 0, 1, "aaaaaaa b");
        long narrow = sumOf(0, "2,2,2,2,2,2,2,0,5");
        Check.same("P24 in one line", house.checksum(), narrow);
        house.setWidth(8);
        Check.same("P24 in two lines", house.checksum(), sumOf(0, "2,2,2,2,2,2,2,5"));
    }

    private static void checksumWrapsRound() {
        Dotpress house = new Dotpress();
        long due = 0;
        for (int text = 0; text < 6; text++) {
            Check.setText(house, text, 1, "abc de f");
            due = sumOf(due, "63,63,63,0,63,63,0,63");
        }
        Check.same("P24 six texts", house.checksum(), due);
    }

    private static long sumOf(long before, String cells) {
        long sum = before;
        for (String cell : cells.split(",")) {
            sum = 31 * sum + Integer.parseInt(cell);
        }
        return sum;
    }

    private static void meanIsOfSixPins() {
        Dotpress house = new Dotpress();
        Check.same("P26 none", house.meanStrikes(), 0.0);
        Check.addRule(house, "a", 1, 1, 0);
        Check.setText(house, 0, 1, "a");
        house.emboss(0);
        Check.same("P26 one", house.meanStrikes(), 1.0 / 6.0);
        Check.setText(house, 0, 1, "z");
        house.emboss(0);
        Check.same("P26 seven", house.meanStrikes(), 7.0 / 6.0);
        house.replace(1);
        Check.same("P26 five", house.meanStrikes(), 5.0 / 6.0);
    }

    private static void soundInEveryState() {
        Dotpress house = new Dotpress();
        Check.same("P27 new", house.isSound(), true);
        Check.setText(house, 0, 1, "abc abcabcabcabcabcabcabcabc ab a");
        Check.same("P27 a text", house.isSound(), true);
        house.setWidth(8);
        Check.same("P27 narrow", house.isSound(), true);
        Check.addRule(house, "b", 1, 1, 2);
        Check.addRule(house, "ab", 1, 3, 4);
        Check.addRule(house, "a", 2, 3, 4);
        Check.same("P27 rules", house.isSound(), true);
        Check.setText(house, 1, 2, "aaaa bbbb abab");
        Check.turnException(house, "abab");
        Check.same("P27 an exception", house.isSound(), true);
        house.removeRule(1);
        Check.same("P27 a rule less", house.isSound(), true);
        Check.setText(house, 0, 1, "");
        Check.same("P27 no words", house.isSound(), true);
    }

    // No call of the face makes a house unsound, so these reach inside.

    private static void unsoundWhenALineIsTooWide() throws ReflectiveOperationException {
        Dotpress house = new Dotpress();
        Check.setText(house, 0, 1, "aaaaaaaaa");
        Field width = Dotpress.class.getDeclaredField("width");
        width.setAccessible(true);
        width.setInt(house, 9);
        Check.same("P27 as wide as the line", house.isSound(), true);
        width.setInt(house, 8);
        Check.same("P27 narrower than the line", house.isSound(), false);
    }

    private static void unsoundWhenRulesAreNotInOrder() throws ReflectiveOperationException {
        Dotpress house = new Dotpress();
        Check.addRule(house, "a", 1, 1, 0);
        Check.addRule(house, "b", 1, 1, 0);
        Object keys = inside(inside(house, "rules"), "keys");
        int first = read(keys, 0);
        int second = read(keys, 1);
        write(keys, 0, second);
        Check.same("P27 the same letters", house.isSound(), false);
        write(keys, 1, first);
        Check.same("P27 changed places", house.isSound(), false);
    }

    private static void unsoundWhenLinesHaveOtherCells() throws ReflectiveOperationException {
        Dotpress house = new Dotpress();
        Check.setText(house, 0, 1, "ab a");
        Object laid = inside(inside(((Object[]) inside(house, "texts"))[0], "laid"), "numbers");
        write(laid, 3, 5);
        Check.same("P27 another cell", house.isSound(), false);
        write(laid, 3, 0);
        Check.same("P27 a cell less", house.isSound(), false);
        write(laid, 3, 63);
        Check.same("P27 the cell again", house.isSound(), true);
        write(laid, 2, 63);
        Check.same("P27 a cell more", house.isSound(), false);
    }

    private static Object inside(Object holder, String name) throws ReflectiveOperationException {
        Field field = holder.getClass().getDeclaredField(name);
        field.setAccessible(true);
        return field.get(holder);
    }

    private static int read(Object row, int index) throws ReflectiveOperationException {
        Method get = row.getClass().getDeclaredMethod("get", int.class);
        get.setAccessible(true);
        return (int) get.invoke(row, index);
    }

    private static void write(Object row, int index, int number)
            throws ReflectiveOperationException {
        Method set = row.getClass().getDeclaredMethod("set", int.class, int.class);
        set.setAccessible(true);
        set.invoke(row, index, number);
    }
}
