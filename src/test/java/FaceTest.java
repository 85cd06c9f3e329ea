import java.lang.reflect.Constructor;
import java.lang.reflect.Field;
import java.lang.reflect.Method;
import java.lang.reflect.Modifier;
import java.util.Set;
import java.util.TreeSet;

/** The public face is the document's, and nothing else of the class can be seen from outside. */
public final class FaceTest {

    private static final String[] FACE = {
        "void begin(int, int) throws IllegalArgumentException",
        "int addFibre(int, int, int) throws IllegalArgumentException, IllegalStateException",
        "boolean toggleConverter(int) throws IllegalArgumentException",
        "int cut(int) throws IndexOutOfBoundsException, IllegalStateException",
        "int repair(int) throws IndexOutOfBoundsException, IllegalStateException",
        "int lightOn(int, int) throws IndexOutOfBoundsException, IllegalArgumentException",
        "int load()",
        "float usage() throws IllegalStateException",
        "int request(int, int, int, int) throws IllegalArgumentException, IllegalStateException",
        "int newLength(int, int, int) throws IllegalArgumentException, IllegalStateException",
        "int release(int) throws IndexOutOfBoundsException, IllegalStateException",
        "int lightOf(int) throws IndexOutOfBoundsException, IllegalStateException",
        "int requests()",
        "int lights()",
        "int state(int) throws IndexOutOfBoundsException",
        "int units(int) throws IndexOutOfBoundsException",
        "int channels(int, int) throws IndexOutOfBoundsException",
        "int channel(int, int, int) throws IndexOutOfBoundsException",
        "int reroute(int) throws IndexOutOfBoundsException, IllegalStateException",
        "int merge() throws IllegalStateException",
        "int move() throws IllegalStateException",
        "int wavelengthsNeeded()",
    };

    public static void main(String[] args) {
        Class<?> face = Opticmesh.class;
        Check.same("public and final", Modifier.PUBLIC | Modifier.FINAL, face.getModifiers());
        Check.same("one constructor", 1, face.getDeclaredConstructors().length);
        for (Constructor<?> constructor : face.getDeclaredConstructors()) {
            Check.same("it is public", Modifier.PUBLIC, constructor.getModifiers());
            Check.same("without parameters", 0, constructor.getParameterCount());
        }
        Set<String> due = new TreeSet<>(Set.of(FACE));
        Set<String> names = new TreeSet<>();
        for (Method method : face.getDeclaredMethods()) {
            if (Modifier.isPublic(method.getModifiers())) {
                String told = told(method);
                names.add(method.getName());
                Check.same(told + " is in the document", 1, due.remove(told) ? 1 : 0);
            }
        }
        Check.same("missing: " + due, 0, due.size());
        for (Method method : face.getDeclaredMethods()) {
            if (!Modifier.isPublic(method.getModifiers())) {
                Check.same(method + " is private", Modifier.PRIVATE, method.getModifiers() & ~Modifier.STATIC);
                Check.same(method + " has its own name", 0, names.contains(method.getName()) ? 1 : 0);
            }
        }
        for (Field field : face.getDeclaredFields()) {
            Check.same(field + " is private", 1, Modifier.isPrivate(field.getModifiers()) ? 1 : 0);
            boolean isState = Modifier.isStatic(field.getModifiers()) && !Modifier.isFinal(field.getModifiers());
            Check.same(field + " is no static state", 0, isState ? 1 : 0);
        }
        Check.end("FaceTest");
    }

    private static String told(Method method) {
        StringBuilder told = new StringBuilder();
        told.append(method.getReturnType()).append(' ').append(method.getName()).append('(');
        for (Class<?> parameter : method.getParameterTypes()) {
            told.append(told.charAt(told.length() - 1) == '(' ? "" : ", ").append(parameter);
        }
        told.append(')');
        String before = " throws ";
        for (Class<?> thrown : method.getExceptionTypes()) {
            told.append(before).append(thrown.getSimpleName());
            before = ", ";
        }
        return told.toString();
    }
}
