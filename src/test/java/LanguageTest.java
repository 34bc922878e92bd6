import java.io.IOException;
import java.lang.reflect.Field;
import java.lang.reflect.Method;
import java.lang.reflect.Modifier;
import java.nio.file.Files;
import java.nio.file.Path;
import java.util.ArrayList;
import java.util.List;
import java.util.Set;
import java.util.TreeSet;
import java.util.regex.Matcher;
import java.util.regex.Pattern;

/** What can be seen of the rules of LANGUAGE.md in the one file and in its classes, by their numbers. */
public final class LanguageTest {
    private static final Check CHECK = new Check();
    private static final Path SOURCE = Path.of("src", "main", "java", "MeerDrawers.java");

    private static final Set<String> LIBRARY = Set.of("Math.max", "Math.min", "Integer.compare", "Integer.bitCount",
            "Integer.MAX_VALUE", "System.arraycopy");
    private static final String NEVER = "catch|try|finally|synchronized|assert|instanceof|volatile|transient|native|"
            + "strictfp|float|double|protected|Object|var|yield|package|equals|hashCode|toString|getClass|finalize";

    private static final List<Class<?>> CLASSES = new ArrayList<>();

    private static void none(String rule, String code, String pattern) {
        Matcher matcher = Pattern.compile(pattern).matcher(code);
        CHECK.holds(rule + (matcher.find() ? ": " + matcher.group() : ""), !matcher.reset().find());
    }

    private static int count(String code, String pattern) {
        return (int) Pattern.compile(pattern).matcher(code).results().count();
    }

    /** Comments go, texts are left empty: what is left is code. */
    private static String codeOf(String source) {
        return source.replaceAll("(?s)/\\*.*?\\*/", "").replaceAll("//[^\n]*", "").replaceAll("\"[^\"\n]*\"", "\"\"")
                .replaceAll("'[^'\n]'", "' '");
    }

    // ---- Of the text ----

    private static void theFile(String source, String code) {
        for (int i = 0; i < source.length(); i++) {
            char sign = source.charAt(i);
            if (sign != '\n' && (sign < 32 || sign > 126)) {
                CHECK.holds("only plain signs, but " + (int) sign + " at " + i, false);
            }
        }
        CHECK.holds("one import", count(code, "(?m)^import ") == 1);
        CHECK.holds("the import is of the face", code.startsWith("import java.util.NoSuchElementException;"));
        none("2: no lambda", code, "->");
        none("2: no method reference", code, "::");
        none("6: nothing that is left out", code, "\\b(" + NEVER + ")\\b");
        none("9: no loop without an end", code, "while \\(true\\)|for \\(;;\\)|for \\(.*;\\s*;");
        none("10: no texts joined by +", code, "\"\"\\s*\\+|\\+\\s*\"\"");
        none("3: no arrays of three dimensions", code, "\\[\\]\\[\\]\\[\\]");
    }

    private static void library(String code) {
        Matcher matcher = Pattern.compile("\\b(Math|Integer|Long|System|Arrays|String|Character|List|ArrayList)\\.\\w+").matcher(code);
        while (matcher.find()) {
            CHECK.holds("4: the library has " + matcher.group(), LIBRARY.contains(matcher.group()));
        }
    }

    private static void throwing(String source, String code) {
        int thrown = count(source, "throw new (NoSuchElementException|IllegalArgumentException)\\(\"[^\"]*\"\\);");
        CHECK.holds("6: each throw is of a written text", thrown == count(code, "\\bthrow\\b"));
    }

    /** Rows are made once, with the object that has them. */
    private static void making(String code) {
        for (String line : code.split("\n")) {
            if (line.contains("new ") && !line.contains("throw new ")) {
                CHECK.holds("12: made where a field is: " + line.trim(),
                        line.matches("\\s+private (static )?(final )?[\\w\\[\\]]+ \\w+ = new .*"));
            }
        }
    }

    /** Methods stand one or two levels deep, and end where a brace stands as deep as they begin. */
    private static void methods(String source) {
        String[] lines = source.split("\n");
        for (int from = 0; from < lines.length; from++) {
            Matcher matcher = Pattern.compile("( {4}| {8})(\\w[^=;]*)\\((.*)\\)( throws .*)? \\{").matcher(lines[from]);
            if (matcher.matches()) {
                int to = from;
                while (to < lines.length && !lines[to].equals(matcher.group(1) + "}")) {
                    to++;
                }
                CHECK.holds("11: short is " + matcher.group(2), to - from <= 60);
                CHECK.holds("11: parameters of " + matcher.group(2), matcher.group(3).split(",").length <= 7);
            }
        }
    }

    // ---- Of the classes ----

    private static boolean isOwn(Class<?> type) {
        return CLASSES.contains(type);
    }

    private static boolean mayHold(Class<?> type) {
        Class<?> part = type.isArray() ? type.getComponentType() : type;
        return part == int.class || part == long.class || part == byte.class || part == boolean.class || isOwn(part);
    }

    private static void fields(Class<?> of) {
        int own = 0;
        for (Field field : of.getDeclaredFields()) {
            int is = field.getModifiers();
            own += Modifier.isStatic(is) ? 0 : 1;
            CHECK.holds("3: the type of " + field, mayHold(field.getType()));
            CHECK.holds("5: a constant is " + field, !Modifier.isStatic(is)
                    || Modifier.isFinal(is) && (field.getType() == int.class || field.getType() == boolean.class));
        }
        CHECK.holds("11: some twenty fields of " + of, own <= 20);
    }

    private static void names() {
        Set<String> face = new TreeSet<>();
        for (Method method : MeerDrawers.class.getDeclaredMethods()) {
            if (Modifier.isPublic(method.getModifiers())) {
                face.add(method.getName());
            }
        }
        for (Class<?> of : CLASSES) {
            for (Method method : of.getDeclaredMethods()) {
                CHECK.holds("1: a name of the face is " + method,
                        of == MeerDrawers.class && Modifier.isPublic(method.getModifiers()) || !face.contains(method.getName()));
            }
        }
    }

    private static void classes() {
        CLASSES.add(MeerDrawers.class);
        CLASSES.addAll(List.of(MeerDrawers.class.getDeclaredClasses()));
        CHECK.holds("11: some twelve classes", CLASSES.size() <= 12);
        for (Class<?> of : CLASSES) {
            fields(of);
            int is = of.getModifiers();
            CHECK.holds("1: private and static is " + of,
                    of == MeerDrawers.class || Modifier.isPrivate(is) && Modifier.isStatic(is));
        }
        names();
    }

    public static void main(String[] args) throws IOException {
        String source = Files.readString(SOURCE);
        String code = codeOf(source);
        theFile(source, code);
        library(code);
        throwing(source, code);
        making(code);
        methods(source);
        classes();
        CHECK.end();
    }
}
