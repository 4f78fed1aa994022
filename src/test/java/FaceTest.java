import java.lang.reflect.Constructor;
import java.lang.reflect.Field;
import java.lang.reflect.Method;
import java.lang.reflect.Modifier;
import java.util.Arrays;
import java.util.Set;
import java.util.TreeSet;

/** The public face of the document and no more, and the rules on members that can be seen from outside. */
public final class FaceTest {
    private static final Checks CHECKS = new Checks();
    private static final Set<String> FACE = Set.of(
        "unknowns 0", "modulus 0", "draft 2", "drafted 1", "add 2", "drop 2", "copy 1", "size 1",
        "solutions 1", "nth 2", "below 2", "entails 2", "countAt 2", "values 1", "leastValue 1",
        "within 1", "common 0", "withoutUnknown 2", "settledBits 2", "redundant 2");

    public static void main(String[] args) {
        Class<?> book = CongruenceBook.class;
        CHECKS.holds("the class is public and final",
            Modifier.isPublic(book.getModifiers()) && Modifier.isFinal(book.getModifiers()));
        CHECKS.holds("the class stands in no package", book.getPackageName().isEmpty());
        CHECKS.holds("there is no nested class", book.getDeclaredClasses().length == 0);
        CHECKS.holds("the class extends nothing", book.getSuperclass() == Object.class && book.getInterfaces().length == 0);
        constructors(book);
        methods(book);
        fields(book);
        CHECKS.end();
    }

    private static void constructors(Class<?> book) {
        Constructor<?>[] all = book.getDeclaredConstructors();
        CHECKS.due("constructors", all.length, 1);
        CHECKS.holds("the constructor is public", Modifier.isPublic(all[0].getModifiers()));
        CHECKS.holds("the constructor takes two ints",
            Arrays.equals(all[0].getParameterTypes(), new Class<?>[] {int.class, int.class}));
    }

    private static void methods(Class<?> book) {
        Set<String> face = new TreeSet<>();
        Set<String> publicNames = new TreeSet<>();
        for (Method method : book.getDeclaredMethods()) {
            CHECKS.holds(method + " takes at most seven parameters", method.getParameterCount() <= 7);
            if (Modifier.isPublic(method.getModifiers())) {
                face.add(method.getName() + " " + method.getParameterCount());
                publicNames.add(method.getName());
                CHECKS.holds(method + " answers an int", method.getReturnType() == int.class);
                CHECKS.holds(method + " takes ints alone",
                    Arrays.stream(method.getParameterTypes()).allMatch(type -> type == int.class));
                CHECKS.holds(method + " is not static", !Modifier.isStatic(method.getModifiers()));
            }
        }
        CHECKS.holds("the public methods are the document's: " + face, face.equals(FACE));
        for (Method method : book.getDeclaredMethods()) {
            if (!Modifier.isPublic(method.getModifiers())) {
                CHECKS.holds(method + " is private", Modifier.isPrivate(method.getModifiers()));
                CHECKS.holds(method + " has a name of its own", !publicNames.contains(method.getName()));
            }
        }
    }

    private static void fields(Class<?> book) {
        for (Field field : book.getDeclaredFields()) {
            CHECKS.holds(field + " is private", Modifier.isPrivate(field.getModifiers()));
            CHECKS.holds(field + " holds whole numbers or an array of them", isPlain(field.getType()));
            if (Modifier.isStatic(field.getModifiers())) {
                CHECKS.holds(field + " is a constant", Modifier.isFinal(field.getModifiers())
                    && (field.getType() == int.class || field.getType() == long.class));
            }
        }
    }

    private static boolean isPlain(Class<?> type) {
        Class<?> cell = type.isArray() ? type.getComponentType() : type;
        return cell.isPrimitive() && cell != float.class && cell != double.class;
    }
}
