/** Promises 17 to 21: embossing, what was embossed last, and the pins. */
final class EmbossTest {
    private static final int[] FAR = {-1, Integer.MIN_VALUE, Integer.MAX_VALUE};

    public static void main(String[] args) {
        embossCountsPagesAndLines();
        embossStrikesDots();
        embossLeavesSameLinesOut();
        embossComparesLinesByNumber();
        embossRemembersAcrossTyping();
        linesBeyondAreEmbossedAnew();
        pagesWithoutOtherLinesAreLeftOut();
        textsAreEmbossedApart();
        pinsBearSoMuch();
        wornPinsThatRestDoNotHinder();
        refusedEmbossingChangesNothing();
        changedCountsOtherLines();
        setBearingTakesItsRange();
        replacePutsANewPinIn();
        pinsAreOneToSix();
        Check.end();
    }

    private static String strikesOf(Dotpress house) {
        StringBuilder strikes = new StringBuilder();
        for (int pin = 1; pin <= 6; pin++) {
            strikes.append(pin == 1 ? "" : ",").append(house.strikes(pin));
        }
        return strikes.toString();
    }

    private static void embossCountsPagesAndLines() {
        Dotpress house = new Dotpress();
        house.setWidth(8);
        for (int words = 0; words <= 16; words++) {
            Dotpress fresh = new Dotpress();
            fresh.setWidth(8);
            Check.setText(fresh, 0, 1, "aaaa ".repeat(words));
            Check.same("P17 " + words, fresh.emboss(0), 100 * ((words + 3) / 4) + words);
        }
        Check.refuses("P17 text", IndexOutOfBoundsException.class, () -> house.emboss(0));
        Check.setText(house, 0, 1, "a");
        Check.refuses("P17 text 1", IndexOutOfBoundsException.class, () -> house.emboss(1));
        for (int far : FAR) {
            Check.refuses("P17 " + far, IndexOutOfBoundsException.class, () -> house.emboss(far));
        }
    }

    private static void embossStrikesDots() {
        Dotpress house = new Dotpress();
        for (int pin = 0; pin < 6; pin++) {
            Check.addRule(house, "" + (char) ('a' + pin), 1, 1 << pin, 0);
        }
        Check.setText(house, 0, 1, "abbcccddddeeeeeffffff z");
        Check.same("P17", house.emboss(0), 102);
        Check.same("P21 strikes", strikesOf(house), "2,3,4,5,6,7");
        Check.addRule(house, "g", 1, 21, 42);
        Check.setText(house, 1, 1, "g gg");
        Check.same("P17 again", house.emboss(1), 101);
        Check.same("P21 strikes in all", strikesOf(house), "5,6,7,8,9,10");
    }

    private static void embossLeavesSameLinesOut() {
        Dotpress house = new Dotpress();
        house.setWidth(8);
        Check.addRule(house, "a", 1, 1, 0);
        Check.addRule(house, "b", 1, 3, 0);
        Check.setText(house, 0, 1, "aaaaaaaa bbbbbbbb aaaaaaaa");
        Check.same("P17 all", house.emboss(0), 103);
        Check.same("P21 all", strikesOf(house), "24,8,0,0,0,0");
        Check.same("P17 none", house.emboss(0), 0);
        Check.same("P21 none", strikesOf(house), "24,8,0,0,0,0");
        Check.mend(house, "b", 1, 6, 0);
        Check.same("P17 one", house.emboss(0), 101);
        Check.same("P21 one", strikesOf(house), "24,16,8,0,0,0");
        Check.mend(house, "b", 1, 3, 0);
        Check.same("P17 back", house.emboss(0), 101);
        Check.same("P21 back", strikesOf(house), "32,24,8,0,0,0");
    }

    private static void embossComparesLinesByNumber() {
        Dotpress house = new Dotpress();
        house.setWidth(8);
        Check.addRule(house, "a", 1, 1, 0);
        Check.addRule(house, "b", 1, 2, 0);
        Check.setText(house, 0, 1, "aaaaaaaa bbbbbbbb");
        house.emboss(0);
        Check.setText(house, 0, 1, "bbbbbbbb aaaaaaaa");
        Check.same("P18 changed places", house.changed(0), 2);
        Check.same("P17 changed places", house.emboss(0), 102);
        Check.setText(house, 0, 1, "bbbbbbb aaaaaaaa");
        Check.same("P18 a shorter line", house.changed(0), 1);
        Check.setText(house, 0, 1, "bbbbbbbb aaa aaaa");
        Check.same("P18 a blank inside", house.changed(0), 1);
        Check.same("P17 a blank inside", house.emboss(0), 101);
        Check.same("P21 a blank strikes nothing", strikesOf(house), "23,16,0,0,0,0");
    }

    private static void embossRemembersAcrossTyping() {
        Dotpress house = new Dotpress();
        Check.setText(house, 0, 1, "abc");
        house.emboss(0);
        Check.setText(house, 0, 2, "xyz");
        Check.same("P18 same cells typed anew", house.changed(0), 0);
        Check.same("P17 same cells typed anew", house.emboss(0), 0);
        Check.setText(house, 0, 1, "");
        Check.setText(house, 0, 1, "abc");
        Check.same("P17 typed away and back", house.emboss(0), 0);
        Check.same("P21 struck once", strikesOf(house), "3,3,3,3,3,3");
    }

    private static void linesBeyondAreEmbossedAnew() {
        Dotpress house = new Dotpress();
        house.setWidth(8);
        Check.setText(house, 0, 1, "aaaaaaaa aaaaaaaa aaaaaaaa");
        house.emboss(0);
        Check.setText(house, 0, 1, "aaaaaaaa");
        Check.same("P18 two are no more", house.changed(0), 2);
        Check.same("P17 nothing to emboss", house.emboss(0), 0);
        Check.same("P18 then none", house.changed(0), 0);
        Check.setText(house, 0, 1, "aaaaaaaa aaaaaaaa aaaaaaaa");
        Check.same("P18 two are new", house.changed(0), 2);
        Check.same("P17 two anew", house.emboss(0), 102);
        Check.setText(house, 0, 1, "");
        Check.same("P18 three are no more", house.changed(0), 3);
        Check.same("P17 no lines", house.emboss(0), 0);
        Check.same("P18 no lines", house.changed(0), 0);
        Check.setText(house, 0, 1, "aaaaaaaa");
        Check.same("P17 one anew", house.emboss(0), 101);
    }

    private static void pagesWithoutOtherLinesAreLeftOut() {
        Dotpress house = new Dotpress();
        house.setWidth(8);
        Check.setText(house, 0, 1, "aaaaa aaaaa aaaaa aaaaa aaaaa aaaaa aaaaa aaaaa aaaaa");
        Check.same("P17 nine lines", house.emboss(0), 309);
        Check.addRule(house, "b", 1, 1, 0);
        Check.setText(house, 0, 1, "aaaab aaaaa aaaaa aaaaa aaaaa aaaaa aaaaa aaaaa aaaab");
        Check.same("P17 first and last page", house.emboss(0), 202);
        Check.setText(house, 0, 1, "aaaab aaaaa aaaaa aaaab aaaab aaaaa aaaaa aaaaa aaaab");
        Check.same("P17 lines 3 and 4", house.emboss(0), 202);
        Check.setText(house, 0, 1, "aaaab aaaaa aaaaa aaaab aaaaa aaaaa aaaaa aaaab aaaab");
        Check.same("P17 lines 4 and 7", house.emboss(0), 102);
    }

    private static void textsAreEmbossedApart() {
        Dotpress house = new Dotpress();
        Check.setText(house, 0, 1, "a");
        Check.setText(house, 1, 1, "a");
        Check.same("P17 text 0", house.emboss(0), 101);
        Check.same("P18 text 1", house.changed(1), 1);
        Check.same("P17 text 1", house.emboss(1), 101);
    }

    private static void pinsBearSoMuch() {
        Dotpress house = new Dotpress();
        house.setBearing(10);
        Check.addRule(house, "a", 1, 8, 0);
        Check.setText(house, 0, 1, "aaaaaaaaaa");
        Check.same("P17 just as many", house.emboss(0), 101);
        Check.same("P21 just as many", house.strikes(4), 10);
        Check.setText(house, 1, 1, "a");
        Check.refuses("P17 one more", IllegalStateException.class, () -> house.emboss(1));
        house.setBearing(11);
        Check.same("P17 one more is borne", house.emboss(1), 101);
        Check.setText(house, 2, 1, "aaaaaaaaaaaa");
        Check.refuses("P17 twelve", IllegalStateException.class, () -> house.emboss(2));
        Check.same("P20 strikes of the old one", house.replace(4), 11);
        Check.refuses("P17 twelve at once", IllegalStateException.class, () -> house.emboss(2));
        house.setBearing(12);
        Check.same("P17 twelve on a new pin", house.emboss(2), 101);
        Check.refuses("P17 text ahead of pins", IndexOutOfBoundsException.class,
                () -> house.emboss(3));
    }

    private static void wornPinsThatRestDoNotHinder() {
        Dotpress house = new Dotpress();
        Check.addRule(house, "a", 1, 1, 0);
        Check.addRule(house, "b", 1, 2, 0);
        Check.setText(house, 0, 1, "a".repeat(20));
        house.emboss(0);
        house.setBearing(10);
        Check.same("P17 nothing to strike", house.emboss(0), 0);
        Check.setText(house, 1, 1, "bbb");
        Check.same("P17 another pin", house.emboss(1), 101);
        Check.setText(house, 1, 1, "bbba");
        Check.refuses("P17 the worn pin", IllegalStateException.class, () -> house.emboss(1));
    }

    private static void refusedEmbossingChangesNothing() {
        Dotpress house = new Dotpress();
        house.setBearing(10);
        Check.addRule(house, "a", 1, 1, 0);
        Check.addRule(house, "b", 1, 2, 0);
        Check.setText(house, 0, 1, "bb aaaaaaaaaaa");
        Check.refuses("P17 too many", IllegalStateException.class, () -> house.emboss(0));
        Check.same("P21 nothing struck", strikesOf(house), "0,0,0,0,0,0");
        Check.same("P18 nothing embossed", house.changed(0), 1);
        Check.setText(house, 0, 1, "bb aaaaaaaaaa");
        Check.same("P17 as many as borne", house.emboss(0), 101);
        Check.same("P21 struck once", strikesOf(house), "10,2,0,0,0,0");
    }

    private static void changedCountsOtherLines() {
        Dotpress house = new Dotpress();
        house.setWidth(8);
        Check.setText(house, 0, 1, "aaaaaaaa aaaaaaaa");
        Check.same("P18 never embossed", house.changed(0), 2);
        house.emboss(0);
        Check.same("P18 embossed", house.changed(0), 0);
        house.setWidth(17);
        Check.same("P18 wider", house.changed(0), 2);
        house.setWidth(8);
        Check.same("P18 as wide as before", house.changed(0), 0);
        Check.addRule(house, "a", 1, 1, 0);
        Check.same("P18 other cells", house.changed(0), 2);
        house.removeRule(0);
        Check.same("P18 the cells again", house.changed(0), 0);
        Check.refuses("P18 text", IndexOutOfBoundsException.class, () -> house.changed(1));
        for (int far : FAR) {
            Check.refuses("P18 " + far, IndexOutOfBoundsException.class, () -> house.changed(far));
        }
    }

    private static void setBearingTakesItsRange() {
        Dotpress house = new Dotpress();
        Check.same("P19 first", house.setBearing(9999), 5000);
        for (int strikes : new int[] {9, 10000, 0, -10, Integer.MIN_VALUE, Integer.MAX_VALUE}) {
            Check.refuses("P19 " + strikes, IllegalArgumentException.class,
                    () -> house.setBearing(strikes));
        }
        Check.same("P19 highest", house.setBearing(10), 9999);
        Check.same("P19 lowest", house.setBearing(10), 10);
    }

    private static void replacePutsANewPinIn() {
        Dotpress house = new Dotpress();
        Check.setText(house, 0, 1, "aaa");
        house.emboss(0);
        Check.same("P20 the old one", house.replace(2), 3);
        Check.same("P20 the new one", house.replace(2), 0);
        Check.same("P20 the others stay", strikesOf(house), "3,0,3,3,3,3");
        Check.same("P20 first", house.replace(1), 3);
        Check.same("P20 last", house.replace(6), 3);
        Check.same("P21 then", strikesOf(house), "0,0,3,3,3,0");
        Check.same("P20 embossed stays", house.changed(0), 0);
    }

    private static void pinsAreOneToSix() {
        Dotpress house = new Dotpress();
        for (int pin : new int[] {0, 7, -1, Integer.MIN_VALUE, Integer.MAX_VALUE}) {
            Check.refuses("P20 " + pin, IndexOutOfBoundsException.class, () -> house.replace(pin));
            Check.refuses("P21 " + pin, IndexOutOfBoundsException.class, () -> house.strikes(pin));
        }
    }
}
