/** Counts and prints the answers that are not due; a test's main ends with {@link #end()}. */
final class Check {
    /** A call that may throw. */
    interface Call {
        void run();
    }

    private static int calls = 0;
    private static int wrong = 0;

    private Check() {
    }

    static void same(String what, long got, long due) {
        note(got == due, what, String.valueOf(got), String.valueOf(due));
    }

    static void same(String what, double got, double due) {
        note(Double.compare(got, due) == 0, what, String.valueOf(got), String.valueOf(due));
    }

    static void same(String what, boolean got, boolean due) {
        note(got == due, what, String.valueOf(got), String.valueOf(due));
    }

    static void same(String what, String got, String due) {
        note(got.equals(due), what, got, due);
    }

    static void refuses(String what, Class<? extends RuntimeException> due, Call call) {
        String got = "nothing thrown";
        try {
            call.run();
        } catch (RuntimeException thrown) {
            got = thrown.getClass().getName();
        }
        same(what, got, due.getName());
    }

    static void typeAll(Dotpress house, String letters) {
        for (char letter : letters.toCharArray()) {
            house.type(letter);
        }
    }

    static int addRule(Dotpress house, String letters, int grade, int first, int second) {
        typeAll(house, letters);
        return house.addRule(grade, first, second);
    }

    static int mend(Dotpress house, String letters, int grade, int first, int second) {
        typeAll(house, letters);
        return house.mend(grade, first, second);
    }

    static boolean turnException(Dotpress house, String word) {
        typeAll(house, word);
        return house.turnException();
    }

    static int setText(Dotpress house, int text, int grade, String letters) {
        typeAll(house, letters);
        return house.setText(text, grade);
    }

    /** The cells of a word, joined by commas. */
    static String cellsOf(Dotpress house, int text, int word) {
        StringBuilder cells = new StringBuilder();
        int size = house.length(text, word);
        for (int i = 0; i < size; i++) {
            cells.append(i == 0 ? "" : ",").append(house.cellOf(text, word, i));
        }
        return cells.toString();
    }

    /** The lines of a text, joined by bars, with their cells joined by commas. */
    static String linesOf(Dotpress house, int text) {
        StringBuilder lines = new StringBuilder();
        for (int line = 0; line < house.lines(text); line++) {
            lines.append(line == 0 ? "" : "|").append(cellsOfLine(house, text, line));
        }
        return lines.toString();
    }

    /** The letters of the rule at a place. */
    static String lettersOf(Dotpress house, int place) {
        StringBuilder letters = new StringBuilder();
        try {
            for (int i = 0; i < 99; i++) {
                letters.append(house.ruleAt(place, i));
            }
        } catch (java.util.NoSuchElementException behindTheLast) {
            return letters.toString();
        }
        return letters.toString();
    }

    /** The letters of so many rules, joined by blanks. */
    static String rulesOf(Dotpress house, int count) {
        StringBuilder rules = new StringBuilder();
        for (int place = 0; place < count; place++) {
            rules.append(place == 0 ? "" : " ").append(lettersOf(house, place));
        }
        return rules.toString();
    }

    static void end() {
        System.out.println(wrong + " of " + calls + " checks failed");
        System.exit(wrong == 0 ? 0 : 1);
    }

    private static String cellsOfLine(Dotpress house, int text, int line) {
        StringBuilder cells = new StringBuilder();
        try {
            for (int column = 0; column < 99; column++) {
                int cell = house.lineAt(text, line, column);
                cells.append(column == 0 ? "" : ",").append(cell);
            }
        } catch (java.util.NoSuchElementException behindTheLast) {
            return cells.toString();
        }
        return cells.toString();
    }

    private static void note(boolean isRight, String what, String got, String due) {
        calls++;
        if (!isRight) {
            wrong++;
            System.out.println(what + " answered " + got + ", due is " + due);
        }
    }
}
