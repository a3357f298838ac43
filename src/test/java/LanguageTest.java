import java.io.IOException;
import java.nio.file.Files;
import java.nio.file.Path;
import java.util.regex.Pattern;

/** Words that LANGUAGE.md leaves out, looked for in the program's text; it is run from the project's folder. */
public final class LanguageTest {
    private static final String[] WORDS = {"import", "package", "throw", "try", "catch", "finally", "synchronized",
        "assert", "Object", "hashCode", "System", "Thread", "Random"};
    private static final String[] SIGNS = {"->", "::", "@", "Exact(", "static {", "\" + ", " + \""};

    public static void main(String[] args) throws IOException {
        Due due = new Due();
        String program = Files.readString(Path.of("src/main/java/BeanServer.java"))
            .replaceAll("(?s)/\\*.*?\\*/", "").replaceAll("//.*", "");
        due.is("the program is there", program.contains("public final class BeanServer"), true);
        for (String word : WORDS) {
            due.is("the program has " + word, Pattern.compile("\\b" + word + "\\b").matcher(program).find(), false);
        }
        for (String sign : SIGNS) {
            due.is("the program has " + sign, program.contains(sign), false);
        }
        due.end();
    }
}
