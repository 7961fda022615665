import java.lang.reflect.Constructor;
import java.lang.reflect.Field;
import java.lang.reflect.Method;
import java.lang.reflect.Modifier;
import java.util.Set;
import java.util.TreeSet;

/** The public face is the document's, and nothing else of the class can be seen from outside. */
public final class FaceTest {
    private static final Set<String> FACE = Set.of(
            "int write(int,int,int) IndexOutOfBoundsException,IllegalStateException,UnsupportedOperationException",
            "int read(int,int) IndexOutOfBoundsException,IllegalStateException",
            "int code() ",
            "void plan(int,int,int,int) IndexOutOfBoundsException,IllegalArgumentException,UnsupportedOperationException",
            "void cutAfter(int) IllegalArgumentException,IllegalStateException",
            "int start() IllegalStateException",
            "int scrub(int) IllegalStateException,IllegalArgumentException",
            "int findings(boolean) ",
            "int finding(int,int) IndexOutOfBoundsException",
            "int expected(int,int) IndexOutOfBoundsException",
            "int verdict(int,int) IndexOutOfBoundsException",
            "boolean isRight(int,int) IndexOutOfBoundsException",
            "int raw(int,int,int) IndexOutOfBoundsException",
            "void replace(int) IndexOutOfBoundsException,IllegalStateException",
            "int rebuild(int) IndexOutOfBoundsException,IllegalStateException",
            "int count(int) IndexOutOfBoundsException");

    public static void main(String[] args) {
        Class<GuardVolume> face = GuardVolume.class;
        Check.holds("public final class", face.getModifiers() == (Modifier.PUBLIC | Modifier.FINAL));
        Constructor<?>[] constructors = face.getDeclaredConstructors();
        Check.same("constructors", constructors.length, 1);
        Check.holds("public GuardVolume()", Modifier.isPublic(constructors[0].getModifiers())
                && constructors[0].getParameterCount() == 0);
        checkMethods(face);
        for (Field field : face.getDeclaredFields()) {
            Check.holds(field.getName() + " is private", Modifier.isPrivate(field.getModifiers()));
            Check.holds(field.getName() + " is no state of the class", !Modifier.isStatic(field.getModifiers())
                    || Modifier.isFinal(field.getModifiers()));
        }
        for (Class<?> inside : face.getDeclaredClasses()) {
            Check.holds(inside.getName() + " is static and hidden", Modifier.isStatic(inside.getModifiers())
                    && !Modifier.isPublic(inside.getModifiers()) && !Modifier.isProtected(inside.getModifiers()));
        }
        Check.end();
    }

    private static void checkMethods(Class<?> face) {
        Set<String> seen = new TreeSet<>();
        Set<String> publicNames = new TreeSet<>();
        Set<String> privateNames = new TreeSet<>();
        for (Method method : face.getDeclaredMethods()) {
            if (Modifier.isPublic(method.getModifiers())) {
                seen.add(described(method));
                publicNames.add(method.getName());
            } else {
                Check.holds(method.getName() + " is private", Modifier.isPrivate(method.getModifiers()));
                privateNames.add(method.getName());
            }
        }
        Check.holds("the face is the document's: " + seen, seen.equals(new TreeSet<>(FACE)));
        privateNames.retainAll(publicNames);
        Check.holds("no private method bears a public one's name: " + privateNames, privateNames.isEmpty());
    }

    private static String described(Method method) {
        StringBuilder text = new StringBuilder();
        text.append(method.getReturnType()).append(' ').append(method.getName()).append('(');
        text.append(names(method.getParameterTypes())).append(") ").append(names(method.getExceptionTypes()));
        return text.toString();
    }

    private static String names(Class<?>[] types) {
        StringBuilder text = new StringBuilder();
        for (Class<?> type : types) {
            text.append(text.length() == 0 ? "" : ",").append(type.getSimpleName());
        }
        return text.toString();
    }
}
