import java.io.IOException;
import java.lang.reflect.Constructor;
import java.lang.reflect.Field;
import java.lang.reflect.Method;
import java.lang.reflect.Modifier;
import java.util.Set;
import java.util.TreeSet;
import java.util.regex.Matcher;
import java.util.regex.Pattern;

/** The public face is the document's, with nothing beside it. */
public final class FaceTest {
    private static final Pattern METHOD = Pattern.compile("public (\\w+) (\\w+)\\((.*)\\)(?: throws (.*))?;");

    private static final Set<String> FACE = Set.of(
        "int feed(int,int,int,int,int)", "int catalogue(int) IllegalArgumentException", "int fault()",
        "int count(int) NoSuchElementException", "int card(int,int) NoSuchElementException",
        "int clerk(int,int) NoSuchElementException", "int key(int,int,int) NoSuchElementException",
        "boolean before(int,int,int) NoSuchElementException", "int rank(int,int) NoSuchElementException",
        "int at(int,int) NoSuchElementException", "int drawer(int) NoSuchElementException",
        "int put(int,int) NoSuchElementException", "int take(int) NoSuchElementException",
        "int move(int,int) NoSuchElementException", "int file(int) NoSuchElementException", "int undo()",
        "int differ(int,int,int) NoSuchElementException", "int votes(int,int) NoSuchElementException", "int ring()",
        "int head()", "int stay(int) NoSuchElementException", "int stays(int) NoSuchElementException",
        "int search(int,int,int) NoSuchElementException", "int could()", "int explained()",
        "int telling(int) NoSuchElementException", "int matters(int,int) NoSuchElementException", "int sees()",
        "int reader(int,int,int) NoSuchElementException IllegalArgumentException",
        "int game(int,int,int,int) NoSuchElementException IllegalArgumentException",
        "int years(int,int,int) NoSuchElementException IllegalArgumentException",
        "int compromise(int) NoSuchElementException", "int agreed()", "int closest(int) NoSuchElementException",
        "int off(int,int) NoSuchElementException", "int worst(int,int) NoSuchElementException",
        "int trays(int,int,int) NoSuchElementException IllegalArgumentException", "void image()", "boolean restore()");

    /** The methods that the document shows, in the same form. */
    private static Set<String> documentFace() throws IOException {
        Set<String> face = new TreeSet<>();
        String document = Sentences.documentOrNothing();
        if (document.isEmpty()) {
            return FACE;
        }
        Matcher matcher = METHOD.matcher(document.substring(document.indexOf("```java"), document.indexOf("## Terms")));
        while (matcher.find()) {
            String parameters = matcher.group(3).replaceAll("(\\w+) \\w+", "$1").replace(" ", "");
            String thrown = matcher.group(4) == null ? "" : " " + matcher.group(4).replace(",", "");
            face.add(matcher.group(1) + " " + matcher.group(2) + "(" + parameters + ")" + thrown);
        }
        return face;
    }

    private static String shown(Method method) {
        StringBuilder text = new StringBuilder();
        text.append(method.getReturnType().getName()).append(' ').append(method.getName()).append('(');
        for (int i = 0; i < method.getParameterCount(); i++) {
            text.append(i == 0 ? "" : ",").append(method.getParameterTypes()[i].getName());
        }
        text.append(')');
        for (Class<?> thrown : method.getExceptionTypes()) {
            text.append(' ').append(thrown.getSimpleName());
        }
        return text.toString();
    }

    private static void methods(Check check) throws IOException {
        Set<String> face = new TreeSet<>();
        for (Method method : MeerDrawers.class.getDeclaredMethods()) {
            if (!Modifier.isPrivate(method.getModifiers())) {
                face.add(shown(method));
                check.holds(method.getName() + " is public, and no class's", Modifier.isPublic(method.getModifiers())
                        && !Modifier.isStatic(method.getModifiers()));
            }
        }
        check.holds("the face is " + face, FACE.equals(face));
        check.holds("the document's face is " + documentFace(), FACE.equals(documentFace()));
    }

    private static void fieldsAndConstructor(Check check) throws NoSuchFieldException {
        for (Field field : MeerDrawers.class.getDeclaredFields()) {
            check.holds("a field is open: " + field.getName(),
                    Modifier.isPrivate(field.getModifiers()) || field.getName().equals("NONE"));
        }
        Field none = MeerDrawers.class.getDeclaredField("NONE");
        check.holds("NONE is a public constant of int", none.getType() == int.class
                && Modifier.isPublic(none.getModifiers()) && Modifier.isStatic(none.getModifiers())
                && Modifier.isFinal(none.getModifiers()));
        check.due("NONE", -1, () -> MeerDrawers.NONE);
        Constructor<?>[] made = MeerDrawers.class.getDeclaredConstructors();
        check.due("constructors", 1, () -> made.length);
        check.due("parameters of the constructor", 0, () -> made[0].getParameterCount());
        check.holds("the constructor is public", Modifier.isPublic(made[0].getModifiers()));
    }

    private static void theClass(Check check) {
        check.holds("final", Modifier.isFinal(MeerDrawers.class.getModifiers()));
        check.holds("public", Modifier.isPublic(MeerDrawers.class.getModifiers()));
        check.holds("without a package", MeerDrawers.class.getPackageName().isEmpty());
        check.holds("of no other class", MeerDrawers.class.getSuperclass() == Object.class);
        check.due("no interfaces", 0, () -> MeerDrawers.class.getInterfaces().length);
    }

    public static void main(String[] args) throws IOException, NoSuchFieldException {
        Check check = new Check();
        methods(check);
        fieldsAndConstructor(check);
        theClass(check);
        check.end();
    }
}
