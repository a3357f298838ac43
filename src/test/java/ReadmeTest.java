import java.io.IOException;
import java.lang.reflect.InvocationTargetException;
import java.lang.reflect.Method;
import java.lang.reflect.Modifier;
import java.nio.file.Files;
import java.nio.file.Path;
import java.util.ArrayList;
import java.util.HashSet;
import java.util.List;
import java.util.Set;
import java.util.regex.Matcher;
import java.util.regex.Pattern;

/** README.md tells each call, and its example answers as it says there; it is run from the project's folder. */
public final class ReadmeTest {
    private static final Due due = new Due();
    private static final Pattern WRITTEN = Pattern.compile("write\\(server, \"(.*)\"\\);");
    private static final Pattern CALLED = Pattern.compile("server\\.(\\w+)\\(([-0-9, ]*)\\); +// (-?\\w+).*");

    public static void main(String[] args) throws IOException, ReflectiveOperationException {
        String readme = Files.readString(Path.of("README.md"));
        due.by("README.md: An example");
        Set<String> shown = runExample(readme);
        due.by("README.md says how to use the class");
        for (Method method : BeanServer.class.getDeclaredMethods()) {
            if (Modifier.isPublic(method.getModifiers())) {
                String name = method.getName();
                due.is("the example has " + name, name.equals("write") || shown.contains(name), true);
                due.is("a table has " + name,
                    Pattern.compile("\\| `" + method.getReturnType() + " " + name + "\\(").matcher(readme).find(), true);
            }
        }
        due.end();
    }

    /** The names of the calls that the example makes. */
    private static Set<String> runExample(String readme) throws ReflectiveOperationException {
        Set<String> shown = new HashSet<>();
        BeanServer server = null;
        String example = readme.substring(readme.indexOf("```java"), readme.lastIndexOf("```"));
        for (String line : example.lines().skip(1).filter(each -> !each.isEmpty()).toList()) {
            Matcher written = WRITTEN.matcher(line);
            Matcher called = CALLED.matcher(line);
            if (line.equals("BeanServer server = new BeanServer();")) {
                server = new BeanServer();
            } else if (written.matches()) {
                write(server, written.group(1));
            } else {
                due.is("is a call with its answer: " + line, called.matches(), true);
                due.is(line, answer(server, called.group(1), called.group(2)), number(called.group(3)));
                shown.add(called.group(1));
            }
        }
        return shown;
    }

    private static void write(BeanServer server, String text) {
        for (char c : text.toCharArray()) {
            due.is("write in " + text, server.write(c), true);
        }
    }

    private static String answer(BeanServer server, String name, String list)
            throws IllegalAccessException, InvocationTargetException, NoSuchMethodException {
        List<Class<?>> types = new ArrayList<>();
        List<Object> values = new ArrayList<>();
        for (String value : list.isEmpty() ? new String[0] : list.split(", ")) {
            types.add(int.class);
            values.add(Integer.valueOf(value));
        }
        return BeanServer.class.getMethod(name, types.toArray(new Class<?>[0])).invoke(server, values.toArray()).toString();
    }

    /** A constant's name as the number that it is; other answers as they are written. */
    private static String number(String answer) throws ReflectiveOperationException {
        return answer.matches("[A-Z]+") ? BeanServer.class.getField(answer).get(null).toString() : answer;
    }
}
