import java.io.IOException;
import java.nio.file.Files;
import java.nio.file.Path;
import java.util.regex.Matcher;
import java.util.regex.Pattern;

/** Reads the program's text for what LANGUAGE.md forbids; it is run in the project's folder. */
public final class LanguageTest {
    private static final Check CHECK = new Check("LanguageTest");
    private static final String FORBIDDEN_WORDS = "throw throws try catch finally synchronized assert protected "
            + "package import volatile transient native instanceof var equals hashCode toString Object Random Thread "
            + "float double";

    public static void main(String[] args) throws IOException {
        String source = Files.readString(Path.of("src/main/java/DodgingHangman.java"));
        String code = withoutComments(source);
        for (String word : FORBIDDEN_WORDS.split(" ")) {
            CHECK.holds("no '" + word + "'", !Pattern.compile("\\b" + word + "\\b").matcher(code).find());
        }
        for (String sign : new String[] {"->", "::", "\"", "@", "%", "System.out"}) {
            CHECK.holds("no " + sign, !code.contains(sign));
        }
        CHECK.holds("signs from 1 to 127 alone", source.chars().allMatch(c -> c >= 1 && c <= 127));
        staticFieldsAreFinal(code);
        objectsAreMadeInFieldsAlone(code);
        CHECK.end();
    }

    private static String withoutComments(String source) {
        return source.replaceAll("(?s)/\\*.*?\\*/", "").replaceAll("//[^\n]*", "");
    }

    private static void staticFieldsAreFinal(String code) {
        Matcher field = Pattern.compile("\\bstatic (?!final\\b)[^(){};]*[;=]").matcher(code);
        CHECK.holds("no static field that can change", !field.find());
    }

    /** But for the ring of saved states, which makes each of its six states once. */
    private static void objectsAreMadeInFieldsAlone(String code) {
        int made = 0;
        for (String line : code.split("\n")) {
            if (line.contains(" new ") && !line.contains("private final ")) {
                made++;
                CHECK.holds("an object is made: " + line.trim(), line.trim().equals("place = new State();"));
            }
        }
        CHECK.due("places where a method makes an object", made, 1);
    }
}
