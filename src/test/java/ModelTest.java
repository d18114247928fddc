import java.lang.reflect.InvocationTargetException;
import java.lang.reflect.Method;
import java.util.HashMap;
import java.util.Map;

/** All promises at once: long mixed runs of calls, each answer compared with the model's. */
final class ModelTest {
    private static final int RUNS = 1500;
    private static final int MOST_CALLS = 512;
    private static final String[] FACE = {
        "type char", "clear", "addRule int int int", "mend int int int", "removeRule int",
        "ruleAt int int", "turnException", "setText int int", "setWidth int", "words int",
        "length int int", "cellOf int int int", "lines int", "lineAt int int int", "lineOf int int",
        "emboss int", "changed int", "setBearing int", "replace int", "strikes int",
        "mark int int int boolean", "markOf int int int", "checksum", "provedShare",
        "meanStrikes", "isSound"};

    private final Map<String, Method> ofHouse;
    private final Map<String, Method> ofModel;
    private final Dotpress house = new Dotpress();
    private final Model model = new Model();
    private final int run;
    private final int style;
    private long seed;
    private int calls = 0;

    private ModelTest(int run, Map<String, Method> ofHouse, Map<String, Method> ofModel) {
        this.run = run;
        this.style = run % 6;
        this.seed = 7919L * run + 17;
        this.ofHouse = ofHouse;
        this.ofModel = ofModel;
    }

    public static void main(String[] args) throws ReflectiveOperationException {
        Map<String, Method> ofHouse = methodsOf(Dotpress.class);
        Map<String, Method> ofModel = methodsOf(Model.class);
        for (int run = 0; run < RUNS; run++) {
            new ModelTest(run, ofHouse, ofModel).go();
        }
        Check.end();
    }

    private static Map<String, Method> methodsOf(Class<?> owner)
            throws ReflectiveOperationException {
        Map<String, Method> methods = new HashMap<>();
        for (String line : FACE) {
            String[] parts = line.split(" ");
            Class<?>[] types = new Class<?>[parts.length - 1];
            for (int i = 0; i < types.length; i++) {
                types[i] = switch (parts[i + 1]) {
                    case "char" -> char.class;
                    case "boolean" -> boolean.class;
                    default -> int.class;
                };
            }
            methods.put(parts[0], owner.getMethod(parts[0], types));
        }
        return methods;
    }

    private void go() {
        while (calls < MOST_CALLS) {
            switch (style) {
                case 0 -> step(30, 25, 10, 10);
                case 1 -> step(15, 50, 5, 5);
                case 2 -> step(45, 5, 15, 5);
                case 3 -> step(20, 20, 2, 30);
                case 4 -> step(25, 35, 25, 5);
                default -> step(10, 15, 5, 50);
            }
        }
    }

    /** Out of a hundred: steps that set texts, make rules, turn exceptions, or are odd. */
    private void step(int texts, int rules, int exceptions, int odd) {
        int lot = below(140);
        if (lot < texts) {
            typeWords(style == 2 ? 60 : 25);
            call("setText", below(7), grade());
        } else if ((lot -= texts) < rules) {
            changeRules();
        } else if ((lot -= rules) < exceptions) {
            typeWord(1 + below(4));
            call("turnException");
        } else if ((lot -= exceptions) < odd) {
            callOddly();
        } else if (lot % 3 == 0) {
            call("emboss", below(4));
        } else {
            ask();
        }
    }

    private void changeRules() {
        switch (below(5)) {
            case 0, 1 -> {
                typeWord(1 + below(4));
                call("addRule", grade(), cell(), below(2) * cell());
            }
            case 2, 3 -> {
                typeWord(1 + below(3));
                call("mend", grade(), cell(), below(2) * cell());
            }
            default -> call("removeRule", below(12));
        }
    }

    private void ask() {
        int text = below(4);
        int word = below(5);
        switch (below(17)) {
            case 0 -> call("ruleAt", below(9), below(4));
            case 1 -> call("setWidth", 8 + below(33));
            case 2 -> call("words", text);
            case 3 -> call("length", text, word);
            case 4 -> call("cellOf", text, word, below(5));
            case 5 -> call("lines", text);
            case 6 -> call("lineAt", text, below(4), below(12));
            case 7 -> call("lineOf", text, word);
            case 8 -> call("changed", text);
            case 9 -> call("setBearing", below(3) == 0 ? 9999 : 10 + below(90));
            case 10 -> call("replace", 1 + below(6));
            case 11 -> call("strikes", 1 + below(6));
            case 12 -> call("markOf", below(2), text, word);
            case 13 -> call("checksum");
            case 14 -> call(below(2) == 0 ? "provedShare" : "meanStrikes");
            case 15 -> call(below(3) == 0 ? "clear" : "isSound");
            default -> {
                boolean isRight = below(3) > 0;
                call("mark", 0, text, word, isRight);
                call("mark", 1, text, word, isRight);
            }
        }
    }

    /** Any method with any numbers, those beyond all bounds among them. */
    private void callOddly() {
        String[] parts = FACE[below(FACE.length)].split(" ");
        Object[] arguments = new Object[parts.length - 1];
        for (int i = 0; i < arguments.length; i++) {
            arguments[i] = switch (parts[i + 1]) {
                case "char" -> (char) below(300);
                case "boolean" -> below(2) == 0;
                default -> oddNumber();
            };
        }
        call(parts[0], arguments);
    }

    private int oddNumber() {
        return switch (below(8)) {
            case 0 -> Integer.MIN_VALUE;
            case 1 -> Integer.MAX_VALUE;
            case 2 -> -1 - below(3);
            case 3 -> below(70);
            case 4 -> below(12000);
            default -> below(4);
        };
    }

    private void typeWord(int letters) {
        for (int i = 0; i < letters; i++) {
            call("type", (char) ('a' + below(3)));
        }
    }

    private void typeWords(int most) {
        int signs = below(most);
        int blanks = 2 + below(12);
        for (int i = 0; i < signs; i++) {
            call("type", below(blanks) == 0 ? ' ' : (char) ('a' + below(3)));
        }
    }

    private void call(String name, Object... arguments) {
        if (calls >= MOST_CALLS) {
            return;
        }
        calls++;
        StringBuilder what = new StringBuilder("run " + run + ", call " + calls + ": " + name);
        for (Object argument : arguments) {
            what.append(' ').append(argument);
        }
        String got = answer(ofHouse.get(name), house, arguments);
        String due = answer(ofModel.get(name), model, arguments);
        Check.same(what.toString(), got, due);
    }

    private static String answer(Method method, Object owner, Object[] arguments) {
        try {
            return String.valueOf(method.invoke(owner, arguments));
        } catch (InvocationTargetException thrown) {
            return thrown.getCause().getClass().getName();
        } catch (IllegalAccessException closed) {
            return closed.toString();
        }
    }

    private int grade() {
        return 1 + below(2);
    }

    private int cell() {
        return 1 + below(63);
    }

    /** A number from 0 to below the bound, from a row that is the same in every session. */
    private int below(int bound) {
        seed = seed * 6364136223846793005L + 1442695040888963407L;
        return (int) Math.floorMod(seed >>> 33, (long) bound);
    }
}
