import java.io.IOException;
import java.lang.reflect.Method;
import java.lang.reflect.Modifier;
import java.nio.file.Files;
import java.nio.file.Path;
import java.util.Arrays;
import java.util.Set;
import java.util.TreeSet;
import java.util.regex.Matcher;
import java.util.regex.Pattern;

/** Makes the calls of README.md's sample and compares the answers that it tells. */
public final class ReadmeTest {
    private static final Checks CHECKS = new Checks();
    private static final Pattern MAKING = Pattern.compile(
        "CongruenceBook book = new CongruenceBook\\((-?\\d+), (-?\\d+)\\); // .*");
    private static final Pattern CALL = Pattern.compile(
        "book\\.(\\w+)\\(([-\\d, ]*)\\); *// (-?\\d+)(: .*)?");

    public static void main(String[] args) throws IOException, ReflectiveOperationException {
        CongruenceBook book = null;
        Set<String> shown = new TreeSet<>();
        for (String text : sample()) {
            Matcher making = MAKING.matcher(text);
            Matcher call = CALL.matcher(text);
            if (making.matches()) {
                book = new CongruenceBook(Integer.parseInt(making.group(1)), Integer.parseInt(making.group(2)));
            } else if (call.matches() && book != null) {
                shown.add(call.group(1));
                CHECKS.due(text, answer(book, call.group(1), call.group(2)), Integer.parseInt(call.group(3)));
            } else {
                CHECKS.holds("the line can be run: " + text, text.isBlank());
            }
        }
        CHECKS.holds("the sample shows every public method, not only " + shown, shown.equals(publicMethods()));
        CHECKS.end();
    }

    private static String[] sample() throws IOException {
        String readme = Files.readString(Path.of("README.md"));
        String[] parts = readme.split("```(java)?\n");
        CHECKS.due("parts of README.md cut at the sample's fences", parts.length, 3);
        return parts.length == 3 ? parts[1].split("\n") : new String[0];
    }

    private static int answer(CongruenceBook book, String name, String list)
            throws ReflectiveOperationException {
        Object[] arguments = list.isBlank() ? new Object[0]
            : Arrays.stream(list.split(", ")).map(Integer::valueOf).toArray();
        Class<?>[] types = new Class<?>[arguments.length];
        Arrays.fill(types, int.class);
        return (Integer) CongruenceBook.class.getMethod(name, types).invoke(book, arguments);
    }

    private static Set<String> publicMethods() {
        Set<String> names = new TreeSet<>();
        for (Method method : CongruenceBook.class.getDeclaredMethods()) {
            if (Modifier.isPublic(method.getModifiers())) {
                names.add(method.getName());
            }
        }
        return names;
    }
}
