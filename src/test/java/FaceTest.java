import java.lang.reflect.Constructor;
import java.lang.reflect.Field;
import java.lang.reflect.Method;
import java.lang.reflect.Modifier;
import java.util.Set;
import java.util.TreeSet;

/** The public face of the document, and rule 1 of LANGUAGE.md: there is nothing else. */
public final class FaceTest {
    private static final Check CHECK = new Check("FaceTest");
    private static final String[] METHODS = {
        "int type(int)", "int clearText()", "int syntaxError()", "int addWords()", "int removeWord(int)",
        "int words()", "int letterOf(int,int)", "int setPolicy(int)", "int start(int,int)", "int guess(int)",
        "int guessWord()", "int giveUp()", "int status()", "int lives()", "int shown(int)", "int candidates()",
        "int candidate(int)", "int guesses()", "int guessAt(int)", "int families(int)", "int family(int,int,int)",
        "int spread(int)", "int having(int)", "int sureLetters()", "int bestGuess()", "int missesAhead()",
        "int total(int)", "int undo()", "long digest()"
    };

    public static void main(String[] args) {
        Class<?> face = DodgingHangman.class;
        CHECK.holds("the class is public and final", face.getModifiers() == (Modifier.PUBLIC | Modifier.FINAL));
        constants();
        constructors();
        methods();
        CHECK.end();
    }

    private static void constants() {
        CHECK.due("NO_SUCH", DodgingHangman.NO_SUCH, -1);
        CHECK.due("BAD_VALUE", DodgingHangman.BAD_VALUE, -2);
        CHECK.due("NOT_POSSIBLE", DodgingHangman.NOT_POSSIBLE, -3);
        CHECK.due("LIMIT", DodgingHangman.LIMIT, -4);
        CHECK.due("BAD_TEXT", DodgingHangman.BAD_TEXT, -5);
        CHECK.due("NONE", DodgingHangman.NONE, -6);
        Set<String> open = new TreeSet<>();
        for (Field field : DodgingHangman.class.getDeclaredFields()) {
            if (!Modifier.isPrivate(field.getModifiers())) {
                open.add(Modifier.toString(field.getModifiers()) + " " + field.getType() + " " + field.getName());
            }
        }
        Set<String> due = new TreeSet<>();
        for (String name : "NO_SUCH BAD_VALUE NOT_POSSIBLE LIMIT BAD_TEXT NONE".split(" ")) {
            due.add("public static final int " + name);
        }
        CHECK.holds("fields that are not private: " + open, open.equals(due));
    }

    private static void constructors() {
        Constructor<?>[] all = DodgingHangman.class.getDeclaredConstructors();
        CHECK.due("constructors", all.length, 1);
        CHECK.due("its parameters", all[0].getParameterCount(), 0);
        CHECK.holds("it is public", Modifier.isPublic(all[0].getModifiers()));
    }

    private static void methods() {
        Set<String> open = new TreeSet<>();
        Set<String> openNames = new TreeSet<>();
        Set<String> hiddenNames = new TreeSet<>();
        for (Method method : DodgingHangman.class.getDeclaredMethods()) {
            if (Modifier.isPrivate(method.getModifiers())) {
                hiddenNames.add(method.getName());
            } else {
                openNames.add(method.getName());
                CHECK.due("modifiers of " + method, method.getModifiers(), Modifier.PUBLIC);
                open.add(signature(method));
            }
        }
        CHECK.holds("methods that are not private: " + open, open.equals(new TreeSet<>(Set.of(METHODS))));
        for (Class<?> inside : DodgingHangman.class.getDeclaredClasses()) {
            CHECK.holds(inside + " is static", Modifier.isStatic(inside.getModifiers()));
            CHECK.holds(inside + " is not open", (inside.getModifiers() & (Modifier.PUBLIC | Modifier.PROTECTED)) == 0);
            for (Method method : inside.getDeclaredMethods()) {
                hiddenNames.add(method.getName());
            }
        }
        hiddenNames.retainAll(openNames);
        CHECK.holds("no inner method bears a public one's name: " + hiddenNames, hiddenNames.isEmpty());
    }

    private static String signature(Method method) {
        StringBuilder all = new StringBuilder();
        all.append(method.getReturnType()).append(' ').append(method.getName()).append('(');
        Class<?>[] types = method.getParameterTypes();
        for (int i = 0; i < types.length; i++) {
            all.append(i == 0 ? "" : ",").append(types[i]);
        }
        return all.append(')').toString();
    }
}
