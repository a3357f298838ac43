import java.lang.reflect.Constructor;
import java.lang.reflect.Field;
import java.lang.reflect.Method;
import java.lang.reflect.Modifier;
import java.util.ArrayList;
import java.util.List;
import java.util.TreeSet;

/** The public face of the document, and rule 1 of LANGUAGE.md: nothing else can be seen from outside. */
public final class FaceTest {
    private static final Due due = new Due();

    private static final String[] METHODS = {
        "boolean write(char)", "int register()", "int unregister()", "int find()", "boolean set(int,int,int)",
        "boolean unset(int,int)", "int get(int,int)", "int define()", "int check(int,int)", "int select(int)",
        "int selected(int)", "int form(int,int,int)", "int counter(int,int,int,int)", "int gauge(int,int,int,int)",
        "boolean cancel(int)", "int observe()", "long mark(int)", "int listen(int)", "int notice(int,int)"};

    public static void main(String[] args) throws IllegalAccessException {
        due.by("The constants");
        due.is("BAD", BeanServer.BAD, -1);
        due.is("NONE", BeanServer.NONE, -2);
        due.is("EXISTS", BeanServer.EXISTS, -3);
        due.is("FULL", BeanServer.FULL, -4);
        due.by("The public face; rule 1: no other public, protected or package-visible member");
        due.is("modifiers", Modifier.toString(BeanServer.class.getModifiers()), "public final");
        due.is("fields", visibleFields(), "BAD EXISTS FULL NONE ");
        due.is("constructors", constructors(), "public BeanServer() ");
        due.is("methods", visibleMethods().toString(), new TreeSet<>(List.of(METHODS)).toString());
        privateMethodsHaveOtherNames();
        classesInsideAreHidden();
        due.end();
    }

    private static String visibleFields() {
        TreeSet<String> names = new TreeSet<>();
        for (Field field : BeanServer.class.getDeclaredFields()) {
            if (!Modifier.isPrivate(field.getModifiers())) {
                due.is(field.getName(), field.toString(), "public static final int BeanServer." + field.getName());
                names.add(field.getName() + " ");
            }
        }
        return String.join("", names);
    }

    private static String constructors() {
        StringBuilder all = new StringBuilder();
        for (Constructor<?> constructor : BeanServer.class.getDeclaredConstructors()) {
            all.append(constructor).append(' ');
        }
        return all.toString();
    }

    private static TreeSet<String> visibleMethods() {
        TreeSet<String> all = new TreeSet<>();
        for (Method method : BeanServer.class.getDeclaredMethods()) {
            if (!Modifier.isPrivate(method.getModifiers())) {
                due.is(method.getName(), Modifier.toString(method.getModifiers()), "public");
                List<String> types = new ArrayList<>();
                for (Class<?> type : method.getParameterTypes()) {
                    types.add(type.getName());
                }
                all.add(method.getReturnType().getName() + " " + method.getName() + "(" + String.join(",", types) + ")");
            }
        }
        return all;
    }

    private static void privateMethodsHaveOtherNames() {
        TreeSet<String> face = new TreeSet<>();
        for (String method : METHODS) {
            face.add(method.substring(method.indexOf(' ') + 1, method.indexOf('(')));
        }
        for (Method method : BeanServer.class.getDeclaredMethods()) {
            if (Modifier.isPrivate(method.getModifiers())) {
                due.is("private " + method.getName(), face.contains(method.getName()), false);
            }
        }
        for (Class<?> inside : BeanServer.class.getDeclaredClasses()) {
            for (Method method : inside.getDeclaredMethods()) {
                due.is(inside.getSimpleName() + "." + method.getName(), face.contains(method.getName()), false);
            }
        }
    }

    private static void classesInsideAreHidden() {
        for (Class<?> inside : BeanServer.class.getDeclaredClasses()) {
            due.is(inside.getName() + " is private", Modifier.isPrivate(inside.getModifiers()), true);
            due.is(inside.getName() + " is static", Modifier.isStatic(inside.getModifiers()), true);
        }
    }
}
