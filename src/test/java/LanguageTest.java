import java.io.IOException;
import java.lang.reflect.Constructor;
import java.lang.reflect.Field;
import java.lang.reflect.Method;
import java.lang.reflect.Modifier;
import java.nio.file.Files;
import java.nio.file.Path;
import java.util.ArrayList;
import java.util.HashSet;
import java.util.List;
import java.util.Set;
import java.util.regex.MatchResult;
import java.util.regex.Pattern;

/**
 * The rules of LANGUAGE.md that can be looked for in the program's text and in its compiled classes; FaceTest has
 * rule 1. It is run from the project's folder. The program needs less than the rules leave, so that some of these
 * are narrower than the rules.
 */
public final class LanguageTest {
    private static final Due due = new Due();
    private static final String[] WORDS = {"import", "package", "throw", "throws", "try", "catch", "finally", "synchronized",
        "assert", "instanceof", "Object", "hashCode", "System", "Thread", "Random", "volatile", "native", "record", "double",
        "float"};
    private static final String[] SIGNS = {"->", "::", "@", "Exact(", "static {", "\" + ", " + \"", "while (true)", "for (;;)"};
    private static final Set<String> LIBRARY = Set.of("length", "charAt", "isEmpty", "equals", "indexOf", "substring",
        "toCharArray", "append", "setCharAt", "setLength", "deleteCharAt", "reverse", "toString", "min", "max", "abs",
        "floorMod", "floorDiv", "compare", "bitCount");
    private static final Set<Class<?>> PLAIN = Set.of(int.class, long.class, short.class, byte.class, char.class,
        boolean.class, void.class, String.class, StringBuilder.class);
    private static final Set<Class<?>> CONSTANTS = Set.of(int.class, long.class, boolean.class, char.class, String.class);

    public static void main(String[] args) throws IOException {
        String program = Files.readString(Path.of("src/main/java/BeanServer.java"))
            .replaceAll("(?s)/\\*.*?\\*/", "").replaceAll("//.*", "");
        List<Class<?>> classes = new ArrayList<>(List.of(BeanServer.class.getDeclaredClasses()));
        classes.add(BeanServer.class);
        leftOutWords(program);
        nestedClasses(program, classes);
        types(classes);
        library(program, classes);
        staticFields(classes);
        sizes(program, classes);
        due.end();
    }

    private static void leftOutWords(String program) {
        due.by("rules 2, 4, 6, 10 and 13: what is left out");
        due.is("the program is there", program.contains("public final class BeanServer"), true);
        for (String word : WORDS) {
            due.is("the program has " + word, Pattern.compile("\\b" + word + "\\b").matcher(program).find(), false);
        }
        for (String sign : SIGNS) {
            due.is("the program has " + sign, program.contains(sign), false);
        }
    }

    private static void nestedClasses(String program, List<Class<?>> classes) {
        due.by("rule 2: static nested classes, all of them right inside the one public class");
        due.is("classes in the text", Pattern.compile("\\b(class|enum|interface)\\b").matcher(program).results().count(),
            classes.size());
        for (Class<?> inside : classes) {
            due.is(inside.getSimpleName() + " is static", inside == BeanServer.class || Modifier.isStatic(inside.getModifiers()),
                true);
            due.is("classes inside " + inside.getSimpleName(), inside.getDeclaredClasses().length,
                inside == BeanServer.class ? classes.size() - 1 : 0);
        }
    }

    private static boolean isType(Class<?> type, List<Class<?>> own) {
        Class<?> held = type.isArray() ? type.getComponentType() : type;
        return PLAIN.contains(held) || own.contains(held);
    }

    private static void types(List<Class<?>> classes) {
        due.by("rule 3: types");
        for (Class<?> inside : classes) {
            for (Field field : inside.getDeclaredFields()) {
                due.is("type of " + field, isType(field.getType(), classes), true);
            }
            for (Method method : inside.getDeclaredMethods()) {
                due.is("type of " + method, isType(method.getReturnType(), classes), true);
                for (Class<?> type : method.getParameterTypes()) {
                    due.is("types that are given to " + method, isType(type, classes), true);
                }
            }
        }
    }

    private static void library(String program, List<Class<?>> classes) {
        due.by("rule 4: the library");
        Set<String> known = new HashSet<>(LIBRARY);
        for (Class<?> inside : classes) {
            for (Method method : inside.getDeclaredMethods()) {
                known.add(method.getName());
            }
        }
        for (MatchResult call : Pattern.compile("\\.(\\w+)\\(").matcher(program).results().toList()) {
            due.is("the library that is left has " + call.group(1), known.contains(call.group(1)), true);
        }
    }

    private static void staticFields(List<Class<?>> classes) {
        due.by("rule 5: static fields are final, and constants");
        for (Class<?> inside : classes) {
            for (Field field : inside.getDeclaredFields()) {
                if (Modifier.isStatic(field.getModifiers())) {
                    due.is(field + " is final", Modifier.isFinal(field.getModifiers()), true);
                    due.is(field + " is a constant", CONSTANTS.contains(field.getType()), true);
                }
            }
        }
    }

    private static void sizes(String program, List<Class<?>> classes) {
        due.by("rule 11: at most seven parameters, twelve classes, twenty fields, sixty lines");
        due.is(classes.size() + " classes", classes.size() <= 12, true);
        for (Class<?> inside : classes) {
            int fields = 0;
            for (Field field : inside.getDeclaredFields()) {
                fields += Modifier.isStatic(field.getModifiers()) ? 0 : 1;
            }
            due.is(fields + " fields of " + inside, fields <= 20, true);
            for (Method method : inside.getDeclaredMethods()) {
                due.is("parameters of " + method, method.getParameterCount() <= 7, true);
            }
            for (Constructor<?> constructor : inside.getDeclaredConstructors()) {
                due.is("parameters of " + constructor, constructor.getParameterCount() <= 7, true);
            }
        }
        for (MatchResult method : Pattern.compile("(?ms)^( {4}| {8})\\S[^\\n]*\\) \\{\\n.*?^\\1\\}$").matcher(program)
                .results().toList()) {
            long lines = method.group().lines().count();
            due.is(lines + " lines of " + method.group().lines().findFirst().orElse(""), lines <= 60, true);
        }
    }
}
