import java.lang.reflect.Constructor;
import java.lang.reflect.Field;
import java.lang.reflect.Method;
import java.lang.reflect.Modifier;
import java.util.Arrays;
import java.util.Set;
import java.util.TreeSet;

/** The class has the document's public face, each member as it is told there, and shows no other one (rule 1). */
public final class FaceTest {
    private static final String[] FACE = {
        "int sign(int) throws IllegalArgumentException, IllegalStateException",
        "int erase(int) throws IllegalArgumentException",
        "String draft()",
        "int put(int, int) throws IndexOutOfBoundsException, IllegalStateException",
        "int add(int, int, int) throws IndexOutOfBoundsException, IllegalArgumentException, IllegalStateException",
        "int change(int, int) throws IndexOutOfBoundsException",
        "int cut(int, int, int) throws IndexOutOfBoundsException",
        "int copy(int, int) throws IndexOutOfBoundsException",
        "int carry(int, int, int) throws IndexOutOfBoundsException",
        "String line(int, int) throws IndexOutOfBoundsException",
        "int ofLine(int, int, int) throws IndexOutOfBoundsException, IllegalArgumentException",
        "String whole(int) throws IndexOutOfBoundsException",
        "int walk(int) throws IndexOutOfBoundsException",
        "int forth() throws IllegalStateException",
        "int back() throws IllegalStateException",
        "int mend(int) throws IllegalArgumentException, IllegalStateException",
        "int slip(int) throws IllegalArgumentException, IllegalStateException",
        "int strike() throws IllegalStateException",
        "int cursor(int) throws IllegalArgumentException",
        "String script(int, int, boolean) throws IndexOutOfBoundsException",
        "int ofScript(int, int, boolean, int) throws IndexOutOfBoundsException, IllegalArgumentException",
        "String within(int, int, int, int) throws IndexOutOfBoundsException",
        "int moves(int, int) throws IndexOutOfBoundsException",
        "int ofMove(int, int, int, int) throws IndexOutOfBoundsException, IllegalArgumentException",
        "int patch(int, int, int) throws IndexOutOfBoundsException, IllegalArgumentException",
        "int turn()",
        "int write(int) throws IndexOutOfBoundsException, IllegalStateException",
        "int read(int) throws IndexOutOfBoundsException",
        "int fault(int) throws IndexOutOfBoundsException",
        "int lay(int, int) throws IndexOutOfBoundsException, IllegalArgumentException, IllegalStateException",
        "int again()",
        "int ofHunk(int, int) throws IndexOutOfBoundsException, IllegalArgumentException",
        "String hunk(int) throws IndexOutOfBoundsException",
        "int join(int, int, int, int, int)"
            + " throws IndexOutOfBoundsException, IllegalArgumentException, IllegalStateException",
        "int wouldJoin(int, int, int) throws IndexOutOfBoundsException",
        "int quarrel(int, int) throws IndexOutOfBoundsException, IllegalArgumentException",
        "int keep(int) throws IndexOutOfBoundsException, IllegalStateException",
        "int asOf(int, int) throws IndexOutOfBoundsException",
        "int blame(int, int, boolean) throws IndexOutOfBoundsException",
        "int ofVersion(int, int) throws IndexOutOfBoundsException, IllegalArgumentException",
        "int knock()",
        "int house(int) throws IllegalArgumentException",
        "boolean isSound()",
        "long digest()",
    };

    private FaceTest() {
    }

    public static void main(String[] args) {
        Check.at("face");
        Class<?> face = Lineseam.class;
        Check.due(Modifier.PUBLIC | Modifier.FINAL, face.getModifiers());
        Check.due(Object.class, face.getSuperclass());
        Check.due(0, face.getInterfaces().length);
        Constructor<?>[] made = face.getDeclaredConstructors();
        Check.due(1, made.length);
        Check.due(Modifier.PUBLIC, made[0].getModifiers());
        Check.due(0, made[0].getParameterCount());
        methods(face);
        for (Field field : face.getDeclaredFields()) {
            Check.at("field " + field.getName());
            Check.due(true, Modifier.isPrivate(field.getModifiers()));
            Check.due(true, !Modifier.isStatic(field.getModifiers()) || Modifier.isFinal(field.getModifiers()));
        }
        Check.at("classes inside");
        Check.due(true, face.getDeclaredClasses().length <= 12);
        for (Class<?> inside : face.getDeclaredClasses()) {
            Check.at(inside.getName());
            Check.due(true, Modifier.isStatic(inside.getModifiers()));
            Check.due(false, Modifier.isPublic(inside.getModifiers()) || Modifier.isProtected(inside.getModifiers()));
            Check.due(true, variables(inside) <= 20);
        }
        Check.due(true, variables(face) <= 20);
        Check.end("FaceTest");
    }

    private static void methods(Class<?> face) {
        Set<String> told = new TreeSet<>();
        Set<String> names = new TreeSet<>();
        for (Method method : face.getDeclaredMethods()) {
            if (!Modifier.isPrivate(method.getModifiers())) {
                Check.at("method " + method.getName());
                Check.due(Modifier.PUBLIC, method.getModifiers());
                told.add(tell(method));
                names.add(method.getName());
            }
        }
        Check.at("face");
        Check.due(new TreeSet<>(Arrays.asList(FACE)), told);
        for (Method method : face.getDeclaredMethods()) {
            if (Modifier.isPrivate(method.getModifiers())) {
                Check.at("private method " + method.getName());
                Check.due(false, names.contains(method.getName()));
            }
        }
        for (Class<?> inside : face.getDeclaredClasses()) {
            for (Method method : inside.getDeclaredMethods()) {
                Check.at(inside.getName() + "." + method.getName());
                Check.due(false, names.contains(method.getName()));
                Check.due(true, method.getParameterCount() <= 7);
            }
        }
    }

    private static String tell(Method method) {
        StringBuilder told = new StringBuilder();
        told.append(method.getReturnType().getSimpleName()).append(' ').append(method.getName()).append('(');
        for (int k = 0; k < method.getParameterCount(); k++) {
            told.append(k > 0 ? ", " : "").append(method.getParameterTypes()[k].getSimpleName());
        }
        told.append(')');
        for (int k = 0; k < method.getExceptionTypes().length; k++) {
            told.append(k > 0 ? ", " : " throws ").append(method.getExceptionTypes()[k].getSimpleName());
        }
        return told.toString();
    }

    private static int variables(Class<?> one) {
        int count = 0;
        for (Field field : one.getDeclaredFields()) {
            count += Modifier.isStatic(field.getModifiers()) ? 0 : 1;
        }
        return count;
    }
}
