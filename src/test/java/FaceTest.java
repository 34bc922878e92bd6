import java.lang.reflect.Constructor;
import java.lang.reflect.Field;
import java.lang.reflect.Method;
import java.lang.reflect.Modifier;
import java.util.Set;
import java.util.TreeSet;

/** The public face is the document's, with nothing beside it. */
public final class FaceTest {
    private static final String[] FACE = {
        "int feed(int,int,int,int,int)", "int catalogue(int) IllegalArgumentException", "int fault()",
        "int count(int) NoSuchElementException", "int card(int,int) NoSuchElementException",
        "int clerk(int,int) NoSuchElementException", "int key(int,int,int) NoSuchElementException",
        "boolean before(int,int,int) NoSuchElementException", "int rank(int,int) NoSuchElementException",
        "int at(int,int) NoSuchElementException", "int drawer(int) NoSuchElementException",
        "int put(int,int) NoSuchElementException", "int take(int) NoSuchElementException",
        "int move(int,int) NoSuchElementException", "int file(int) NoSuchElementException", "int undo()",
        "int differ(int,int,int) NoSuchElementException", "int votes(int,int) NoSuchElementException", "int ring()",
        "int head()", "int stay(int) NoSuchElementException", "int stays(int) NoSuchElementException",
        "int search(int,int,int) NoSuchElementException", "int could()", "int explained()",
        "int telling(int) NoSuchElementException", "int matters(int,int) NoSuchElementException", "int sees()",
        "int reader(int,int,int) NoSuchElementException IllegalArgumentException",
        "int game(int,int,int,int) NoSuchElementException IllegalArgumentException",
        "int years(int,int,int) NoSuchElementException IllegalArgumentException",
        "int compromise(int) NoSuchElementException", "int agreed()", "int closest(int) NoSuchElementException",
        "int off(int,int) NoSuchElementException", "int worst(int,int) NoSuchElementException",
        "int trays(int,int,int) NoSuchElementException IllegalArgumentException", "void image()", "boolean restore()",
    };

    private static String shown(Method method) {
        StringBuilder text = new StringBuilder();
        text.append(method.getReturnType().getName()).append(' ').append(method.getName()).append('(');
        for (int i = 0; i < method.getParameterCount(); i++) {
            text.append(i == 0 ? "" : ",").append(method.getParameterTypes()[i].getName());
        }
        text.append(')');
        for (Class<?> thrown : method.getExceptionTypes()) {
            text.append(' ').append(thrown.getSimpleName());
        }
        return text.toString();
    }

    public static void main(String[] args) {
        Check check = new Check();
        Set<String> face = new TreeSet<>();
        Set<String> names = new TreeSet<>();
        for (Method method : MeerDrawers.class.getDeclaredMethods()) {
            if (!Modifier.isPrivate(method.getModifiers())) {
                face.add(shown(method));
                names.add(method.getName());
            }
        }
        for (String due : FACE) {
            check.due("the face has " + due, 1, () -> face.contains(due) ? 1 : 0);
        }
        check.due("methods of the face", FACE.length, face::size);
        for (Method method : MeerDrawers.class.getDeclaredMethods()) {
            boolean hides = Modifier.isPrivate(method.getModifiers()) && names.contains(method.getName());
            check.due("a private method bears a public name: " + method.getName(), 0, () -> hides ? 1 : 0);
        }
        for (Field field : MeerDrawers.class.getDeclaredFields()) {
            boolean open = !Modifier.isPrivate(field.getModifiers()) && !field.getName().equals("NONE");
            check.due("a field is open: " + field.getName(), 0, () -> open ? 1 : 0);
        }
        Constructor<?>[] made = MeerDrawers.class.getDeclaredConstructors();
        check.due("constructors", 1, () -> made.length);
        check.due("parameters of the constructor", 0, () -> made[0].getParameterCount());
        check.due("NONE", -1, () -> MeerDrawers.NONE);
        check.due("final", 1, () -> Modifier.isFinal(MeerDrawers.class.getModifiers()) ? 1 : 0);
        check.end();
    }
}
