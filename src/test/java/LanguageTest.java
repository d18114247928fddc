import java.io.IOException;
import java.lang.reflect.Constructor;
import java.lang.reflect.Field;
import java.lang.reflect.Method;
import java.lang.reflect.Modifier;
import java.nio.file.Files;
import java.nio.file.Path;
import java.util.Arrays;
import java.util.List;
import java.util.Set;
import java.util.TreeSet;
import java.util.regex.Matcher;
import java.util.regex.Pattern;
import java.util.stream.Collectors;

/** The face that the document tells, and those rules of LANGUAGE.md that can be looked up. */
final class LanguageTest {
    private static final Path SOURCE = Path.of("src/main/java/Dotpress.java");
    private static final List<String> LIBRARY = List.of("System.arraycopy", "Math.min", "Math.max");

    public static void main(String[] args) throws IOException {
        Set<String> face = new TreeSet<>();
        for (String line : Document.face()) {
            face.add(lineOf(line));
        }
        Check.same("the document's constructor", face.remove("Dotpress()"), true);
        faceIsTheDocuments(face);
        promisesTellTheFace();
        nothingElseIsOpen();
        noPrivateMethodBearsAPublicName(face);
        classesInsideAreFewAndStatic();
        fieldsAreFewAndStaticOnesFinal();
        String source = Files.readString(SOURCE);
        signsAreLow(source);
        wordsAreAllowed(withoutComments(source));
        methodsAreShort(source);
        Check.end();
    }

    private static void faceIsTheDocuments(Set<String> due) {
        Set<String> got = new TreeSet<>();
        for (Method method : Dotpress.class.getDeclaredMethods()) {
            if (!Modifier.isPrivate(method.getModifiers())) {
                got.add(lineOf(method));
            }
        }
        Check.same("methods", String.join("\n", got), String.join("\n", due));
        int open = Dotpress.class.getModifiers();
        Check.same("class", Modifier.toString(open), "public final");
        Check.same("package", Dotpress.class.getPackageName(), "");
        Constructor<?>[] constructors = Dotpress.class.getDeclaredConstructors();
        Check.same("constructors", constructors.length, 1);
        Check.same("constructor", constructors[0].toString(), "public Dotpress()");
    }

    /** A method of the document's face, as the other lineOf tells one of the class. */
    private static String lineOf(String told) {
        String[] parts = told.replace("public ", "").replace(";", "").split(" throws ");
        String head = parts[0].replaceAll("(\\w+) \\w+(?=[,)])", "$1").replace(", ", ",");
        return parts.length == 1 ? head : head + " " + parts[1].replace(", ", " ");
    }

    private static void promisesTellTheFace() throws IOException {
        Set<String> face = new TreeSet<>();
        for (String line : Document.face()) {
            face.add(line.replace("public ", "").replaceAll("( throws .*)?;", ""));
        }
        Set<String> promises = new TreeSet<>();
        for (Document.Told told : Document.calls()) {
            promises.add(told.head());
        }
        Check.same("promises", String.join("\n", promises), String.join("\n", face));
    }

    private static String lineOf(Method method) {
        String types = Arrays.stream(method.getParameterTypes())
                .map(Class::getName).collect(Collectors.joining(","));
        String thrown = Arrays.stream(method.getExceptionTypes())
                .map(type -> " " + type.getSimpleName()).collect(Collectors.joining());
        return method.getReturnType() + " " + method.getName() + "(" + types + ")" + thrown;
    }

    private static void nothingElseIsOpen() {
        for (Method method : Dotpress.class.getDeclaredMethods()) {
            int open = method.getModifiers() & (Modifier.PUBLIC | Modifier.PRIVATE);
            Check.same("public or private: " + method.getName(), open != 0, true);
            Check.same("at most seven: " + method.getName(), method.getParameterCount() <= 7, true);
        }
        for (Field field : Dotpress.class.getDeclaredFields()) {
            Check.same("private: " + field, Modifier.isPrivate(field.getModifiers()), true);
        }
    }

    private static void noPrivateMethodBearsAPublicName(Set<String> face) {
        Set<String> names = new TreeSet<>();
        for (String line : face) {
            names.add(line.split("[ (]")[1]);
        }
        for (Method method : Dotpress.class.getDeclaredMethods()) {
            boolean isPrivate = Modifier.isPrivate(method.getModifiers());
            Check.same("name " + method, isPrivate && names.contains(method.getName()), false);
        }
        for (Class<?> inside : Dotpress.class.getDeclaredClasses()) {
            for (Method method : inside.getDeclaredMethods()) {
                Check.same("name " + method, names.contains(method.getName()), false);
                Check.same("at most seven: " + method, method.getParameterCount() <= 7, true);
            }
        }
    }

    private static void classesInsideAreFewAndStatic() {
        Class<?>[] inside = Dotpress.class.getDeclaredClasses();
        Check.same("at most twelve classes", inside.length < 12, true);
        for (Class<?> one : inside) {
            Check.same("private " + one, Modifier.isPrivate(one.getModifiers()), true);
            Check.same("static " + one, Modifier.isStatic(one.getModifiers()), true);
        }
    }

    private static void fieldsAreFewAndStaticOnesFinal() {
        countFields(Dotpress.class);
        for (Class<?> inside : Dotpress.class.getDeclaredClasses()) {
            countFields(inside);
        }
    }

    private static void countFields(Class<?> owner) {
        int own = 0;
        for (Field field : owner.getDeclaredFields()) {
            if (Modifier.isStatic(field.getModifiers())) {
                Check.same("final " + field, Modifier.isFinal(field.getModifiers()), true);
                Check.same("constant " + field, field.getType().isPrimitive(), true);
            } else {
                own++;
            }
        }
        Check.same("at most twenty fields: " + owner, own <= 20, true);
    }

    private static void signsAreLow(String source) {
        for (int i = 0; i < source.length(); i++) {
            if (source.charAt(i) > 126) {
                Check.same("sign at " + i, source.charAt(i), ' ');
            }
        }
        Check.same("source ends with a line", source.endsWith("}\n"), true);
    }

    private static String withoutComments(String source) {
        return source.replaceAll("(?s)/\\*.*?\\*/", "").replaceAll("//[^\n]*", "");
    }

    private static void wordsAreAllowed(String code) {
        Matcher imports = Pattern.compile("import ([^;]*);").matcher(code);
        while (imports.find()) {
            Check.same("import", imports.group(1), "java.util.NoSuchElementException");
        }
        for (String word : List.of("try", "catch", "finally", "synchronized", "assert", "volatile",
                "native", "instanceof", "yield", "var", "hashCode", "toString", "equals")) {
            boolean isThere = Pattern.compile("\\b" + word + "\\b").matcher(code).find();
            Check.same("word " + word, isThere, false);
        }
        for (String sign : List.of("->", "::", "\" +", "+ \"", "@")) {
            Check.same("sign " + sign, code.contains(sign), false);
        }
        Matcher library =
                Pattern.compile("\\b(System|Math|Arrays|Integer|Long)\\.\\w+").matcher(code);
        while (library.find()) {
            Check.same("library " + library.group(), LIBRARY.contains(library.group()), true);
        }
        String written = "throw new (IllegalState|IllegalArgument|IndexOutOfBounds|Arithmetic"
                + "|UnsupportedOperation|NoSuchElement)Exception\\((\"[^\"]*\")?\\);";
        int throwing = code.split("\\bthrow\\b", -1).length - 1;
        long allowed = Pattern.compile(written)
                .matcher(code).results().count();
        Check.same("written throws", allowed, throwing);
    }

    private static void methodsAreShort(String source) {
        String[] lines = source.split("\n");
        for (int i = 0; i < lines.length; i++) {
            Matcher head = Pattern.compile("( {4}| {8})\\w.*\\{").matcher(lines[i]);
            if (!head.matches() || lines[i].contains(" class ")) {
                continue;
            }
            int end = i;
            while (end < lines.length && !lines[end].equals(head.group(1) + "}")) {
                end++;
            }
            Check.same("at most sixty lines from " + (i + 1), end - i < 60, true);
        }
    }
}
