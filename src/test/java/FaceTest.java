import java.lang.reflect.Constructor;
import java.lang.reflect.Field;
import java.lang.reflect.Method;
import java.lang.reflect.Modifier;
import java.util.Set;
import java.util.TreeSet;

/** The public face of the document, nothing beside it, and the rules of LANGUAGE.md that a member shows. */
public final class FaceTest {
    private static final Set<String> FACE = new TreeSet<>(Set.of(
        "int leaf(int, int, int, int)", "int transpose(int, int, int)", "int slice(int, int, int, int)",
        "int expand(int, int, int)", "int reshape(int, int)", "int combine(int, int, int)", "int fold(int, int)",
        "int multiply(int, int)", "boolean drop(int)", "boolean put(int, int, int)", "boolean assign(int, int)",
        "int shape(int)", "int at(int, int)", "boolean gradient(int, int)", "int slope(int)", "int live()"));

    public static void main(String[] args) {
        Check.due("public and final", LazyTensorTape.class.getModifiers(), Modifier.PUBLIC | Modifier.FINAL);
        Check.due("nested classes", LazyTensorTape.class.getDeclaredClasses().length, 0);
        methods();
        constructors();
        fields();
        Check.end();
    }

    private static void methods() {
        Set<String> face = new TreeSet<>();
        Set<String> publicNames = new TreeSet<>();
        for (Method m : LazyTensorTape.class.getDeclaredMethods()) {
            if (Modifier.isPublic(m.getModifiers())) {
                face.add(signature(m));
                publicNames.add(m.getName());
            }
        }
        Check.due("the public methods are those of the document, " + face, face.equals(FACE), true);
        for (Method m : LazyTensorTape.class.getDeclaredMethods()) {
            boolean open = Modifier.isPublic(m.getModifiers());
            Check.due(m + " is public or private", open || Modifier.isPrivate(m.getModifiers()), true);
            Check.due(m + " bears a name of its own", open || !publicNames.contains(m.getName()), true);
            Check.due(m + " has at most seven parameters", m.getParameterCount() <= 7, true);
            Check.due(m + " answers no array", m.getReturnType().isPrimitive(), true);
        }
    }

    private static String signature(Method m) {
        StringBuilder text = new StringBuilder(m.getReturnType() + " " + m.getName() + "(");
        for (int n = 0; n < m.getParameterCount(); n++) {
            text.append(n > 0 ? ", " : "").append(m.getParameterTypes()[n]);
        }
        return text + ")";
    }

    private static void constructors() {
        Constructor<?>[] all = LazyTensorTape.class.getDeclaredConstructors();
        Check.due("constructors", all.length, 1);
        Check.due("parameters of the constructor", all[0].getParameterCount(), 0);
        Check.due("public constructor", Modifier.isPublic(all[0].getModifiers()), true);
    }

    private static void fields() {
        int held = 0;
        for (Field f : LazyTensorTape.class.getDeclaredFields()) {
            int modifiers = f.getModifiers();
            Check.due(f + " is private", Modifier.isPrivate(modifiers), true);
            if (Modifier.isStatic(modifiers)) {
                Check.due(f + " is a constant", Modifier.isFinal(modifiers), true);
                Check.due(f + " is an int", f.getType() == int.class, true);
            } else {
                Class<?> type = f.getType().isArray() ? f.getType().getComponentType() : f.getType();
                Check.due(f + " holds numbers", type.isPrimitive(), true);
                held++;
            }
        }
        Check.due("at most forty fields", held <= 40, true);
    }
}
