import java.lang.reflect.Constructor;
import java.lang.reflect.Field;
import java.lang.reflect.Method;
import java.lang.reflect.Modifier;
import java.util.Arrays;
import java.util.List;
import java.util.Set;
import java.util.TreeSet;

/** The public face is the document's and nothing else can be seen from outside. */
public final class FaceTest {
    private static final List<String> FACE = List.of(
        "generate 2", "retract 2", "clear 1", "order 1", "generators 1", "value 2", "product 2",
        "leading 1", "contains 2", "normal 2", "basisSize 1", "basis 2", "standard 1", "zeros 1",
        "nextZero 2", "within 1", "commonZeros 0", "fixed 3");

    public static void main(String[] args) {
        Class<?> face = BooleanGroebner.class;
        Due.is("public final", face.getModifiers(), Modifier.PUBLIC | Modifier.FINAL);
        Due.is("nested classes", face.getDeclaredClasses().length, 0);
        Constructor<?>[] constructors = face.getDeclaredConstructors();
        Due.is("constructors", constructors.length, 1);
        Due.is("its modifiers", constructors[0].getModifiers(), Modifier.PUBLIC);
        Due.is("its parameters", constructors[0].getParameterCount(), 0);
        for (Field field : face.getDeclaredFields()) {
            Due.is("private " + field.getName(), field.getModifiers() & Modifier.PRIVATE, Modifier.PRIVATE);
        }
        methods(face);
        Due.end();
    }

    private static void methods(Class<?> face) {
        Set<String> seen = new TreeSet<>();
        Set<String> names = new TreeSet<>();
        for (Method method : face.getDeclaredMethods()) {
            Due.is("one method named " + method.getName(), names.add(method.getName()) ? 1 : 0, 1);
            if (Modifier.isPrivate(method.getModifiers())) continue;
            Due.is("public " + method.getName(), method.getModifiers(), Modifier.PUBLIC);
            Due.is("int " + method.getName(), method.getReturnType() == int.class ? 1 : 0, 1);
            boolean ints = Arrays.stream(method.getParameterTypes()).allMatch(t -> t == int.class);
            Due.is("int arguments of " + method.getName(), ints ? 1 : 0, 1);
            seen.add(method.getName() + " " + method.getParameterCount());
        }
        Due.is("the document's methods, seen " + seen, seen.equals(new TreeSet<>(FACE)) ? 1 : 0, 1);
    }
}
