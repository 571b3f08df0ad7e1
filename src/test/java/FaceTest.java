import java.lang.reflect.Constructor;
import java.lang.reflect.Field;
import java.lang.reflect.Method;
import java.lang.reflect.Modifier;
import java.util.ArrayList;
import java.util.Collections;
import java.util.List;

/** The public face, and the rules 1 and 5 of LANGUAGE.md as far as reflection shows them. */
final class FaceTest {
    static final List<String> FACE = List.of(
            "WarpMachine(int)",
            "int emit(int, int, int, int)",
            "int line(int)",
            "int output(int)",
            "int reg(int, int)",
            "int run()",
            "int state(int)",
            "int steps(int)",
            "void clear()",
            "void input(int, int)");

    public static void main(String[] args) {
        List<String> open = new ArrayList<>();
        List<String> openNames = new ArrayList<>();
        for (Constructor<?> c : WarpMachine.class.getDeclaredConstructors()) {
            Due.is(c + " is public", c.getModifiers(), Modifier.PUBLIC);
            open.add("WarpMachine(" + parameters(c.getParameterTypes()) + ")");
        }
        for (Method m : WarpMachine.class.getDeclaredMethods()) {
            if (!Modifier.isPrivate(m.getModifiers())) {
                Due.is(m + " is public alone", m.getModifiers(), Modifier.PUBLIC);
                open.add(m.getReturnType() + " " + m.getName() + "(" + parameters(m.getParameterTypes()) + ")");
                openNames.add(m.getName());
            }
        }
        for (Method m : WarpMachine.class.getDeclaredMethods()) {
            boolean shadows = Modifier.isPrivate(m.getModifiers()) && openNames.contains(m.getName());
            Due.is(m + " bears a public name", shadows ? 1 : 0, 0);
        }
        Collections.sort(open);
        Due.is("the face of the document against " + open, open.equals(FACE) ? 1 : 0, 1);
        for (Field f : WarpMachine.class.getDeclaredFields()) {
            checkField(f);
        }
        Due.is("class modifiers", WarpMachine.class.getModifiers(), Modifier.PUBLIC | Modifier.FINAL);
        Due.is("nested classes", WarpMachine.class.getDeclaredClasses().length, 0);
        Due.end();
    }

    private static void checkField(Field f) {
        int is = f.getModifiers();
        Due.is(f + " is private", Modifier.isPrivate(is) ? 1 : 0, 1);
        if (Modifier.isStatic(is)) {
            boolean whole = f.getType() == int.class || f.getType() == long.class;
            Due.is(f + " is a constant", Modifier.isFinal(is) && whole ? 1 : 0, 1);
        }
    }

    private static String parameters(Class<?>[] types) {
        List<String> names = new ArrayList<>();
        for (Class<?> type : types) {
            names.add(type.getName());
        }
        return String.join(", ", names);
    }
}
