import java.util.LinkedHashMap;
import java.util.Map;
import java.util.NoSuchElementException;

/**
 * What can be asked of a house, told as text; two houses in the same state are told alike. It is
 * asked in parts, each of a house of its own, for none is used for more than 512 calls.
 */
final class Asked {
    /** Tells something of a house, and may change it. */
    interface Probe {
        String of(Dotpress house);
    }

    private interface Answer {
        Object get();
    }

    private static final int TEXTS = 6;
    private static final int RULES = 40;
    private static final String ALPHABET = "abcdefghijklmnopqrstuvwxyz";
    private static final String[] RULED = {
        ALPHABET, "a ab abcd b abab zz", "za zb zc zd ze zf zg zh zi zj zk zl zm zn"};

    private Asked() {
    }

    /** The probes by their names, each for a house of its own, for most of them change it. */
    static Map<String, Probe> probes() {
        Map<String, Probe> probes = new LinkedHashMap<>();
        probes.put("the rules", Asked::rules);
        probes.put("the texts and figures", Asked::texts);
        probes.put("the size of the buffer", house -> "" + house.clear());
        probes.put("the letters of the buffer", Asked::buffer);
        probes.put("a letter behind them", house -> answer(() -> house.type('q')) + buffer(house));
        probes.put("the width", house -> house.setWidth(8) + texts(house));
        probes.put("the bearing", house -> "" + house.setBearing(9999));
        probes.put("the pins", Asked::replaced);
        probes.put("the exceptions", Asked::exceptions);
        probes.put("embossing", Asked::embossed);
        probes.put("embossing with new pins",
                house -> replaced(house) + house.setBearing(9999) + embossed(house));
        for (String words : RULED) {
            probes.put("grade 1 of " + words, house -> translated(house, words, 1));
            probes.put("grade 2 of " + words, house -> translated(house, words, 2));
        }
        return probes;
    }

    /** Every answer of the methods that change nothing, but for ruleAt. */
    private static String texts(Dotpress house) {
        StringBuilder told = new StringBuilder();
        for (int text = 0; text < TEXTS; text++) {
            told.append(text(house, text));
        }
        told.append(" strikes");
        for (int pin = 1; pin <= 6; pin++) {
            told.append(' ').append(house.strikes(pin));
        }
        told.append(" sum ").append(house.checksum());
        told.append(" share ").append(answer(house::provedShare));
        told.append(" mean ").append(house.meanStrikes());
        told.append(" sound ").append(house.isSound());
        return told.toString();
    }

    private static String rules(Dotpress house) {
        StringBuilder told = new StringBuilder("rules");
        try {
            for (int place = 0; place <= RULES; place++) {
                told.append(' ').append(Check.lettersOf(house, place));
            }
        } catch (IndexOutOfBoundsException behindTheLast) {
            return told.toString();
        }
        return told.append(" and more").toString();
    }

    private static String text(Dotpress house, int text) {
        Object words = answer(() -> house.words(text));
        if (!(words instanceof Integer)) {
            return " no text " + text;
        }
        StringBuilder told = new StringBuilder(" text " + text);
        for (int word = 0; word < (Integer) words; word++) {
            told.append(' ').append(Check.cellsOf(house, text, word));
            told.append('@').append(house.lineOf(text, word));
            told.append(house.markOf(0, text, word)).append(house.markOf(1, text, word));
        }
        told.append(" lines ").append(Check.linesOf(house, text));
        told.append(" changed ").append(house.changed(text));
        return told.toString();
    }

    private static String buffer(Dotpress house) {
        StringBuilder told = new StringBuilder();
        for (int i = 0; i < RULES; i++) {
            answer(() -> house.removeRule(0));
        }
        int words = house.setText(0, 2);
        for (int i = 0; i < ALPHABET.length(); i++) {
            Check.addRule(house, ALPHABET.substring(i, i + 1), 1, 1 + i, 0);
        }
        for (int word = 0; word < words; word++) {
            told.append(' ').append(Check.cellsOf(house, 0, word));
        }
        return told.toString();
    }

    private static String replaced(Dotpress house) {
        StringBuilder told = new StringBuilder();
        for (int pin = 1; pin <= 6; pin++) {
            told.append(' ').append(house.replace(pin));
        }
        return told.toString();
    }

    private static String exceptions(Dotpress house) {
        StringBuilder told = new StringBuilder();
        house.clear();
        for (String word : new String[] {"new", "a", "ab", "abab", "abcd", "abcde"}) {
            told.append(' ').append(word).append(answer(() -> Check.turnException(house, word)));
            house.clear();
        }
        for (int i = 0; i < 20; i++) {
            String word = House.fullException(i);
            told.append(' ').append(word).append(answer(() -> Check.turnException(house, word)));
            house.clear();
        }
        return told.toString();
    }

    private static String embossed(Dotpress house) {
        StringBuilder told = new StringBuilder();
        for (int i = 0; i < TEXTS; i++) {
            int text = i;
            told.append(' ').append(answer(() -> house.emboss(text)));
        }
        return told.append(texts(house)).toString();
    }

    private static String translated(Dotpress house, String words, int grade) {
        house.clear();
        int count = Check.setText(house, 0, grade, words);
        StringBuilder told = new StringBuilder();
        for (int word = 0; word < count; word++) {
            told.append(' ').append(Check.cellsOf(house, 0, word));
        }
        return told.toString();
    }

    /** The answer, or the name of the exception that the document knows. */
    private static Object answer(Answer call) {
        try {
            return call.get();
        } catch (IndexOutOfBoundsException | NoSuchElementException | IllegalStateException
                | IllegalArgumentException | ArithmeticException thrown) {
            return thrown.getClass().getSimpleName();
        }
    }
}
