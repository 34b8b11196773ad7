/** Promises 1 to 4: a new object, and the text. */
public final class TextTest {
    private static final Check CHECK = new Check("TextTest");

    public static void main(String[] args) {
        newObject();
        typing();
        clearing();
        syntax();
        CHECK.end();
    }

    private static void newObject() {
        CHECK.promise(1, "a new object");
        DodgingHangman x = new DodgingHangman();
        CHECK.due("words()", x.words(), 0);
        CHECK.due("status()", x.status(), 0);
        CHECK.due("lives()", x.lives(), 0);
        CHECK.due("candidates()", x.candidates(), 0);
        CHECK.due("guesses()", x.guesses(), 0);
        CHECK.due("shown(0)", x.shown(0), DodgingHangman.NO_SUCH);
        for (int what = 0; what < 7; what++) {
            CHECK.due("total(" + what + ")", x.total(what), 0);
        }
        CHECK.due("undo()", x.undo(), DodgingHangman.NOT_POSSIBLE);
        CHECK.due("clearText()", x.clearText(), 0);
        CHECK.due("setPolicy(0), the policy before", x.setPolicy(0), 0);
        DodgingHangman other = new DodgingHangman();
        Check.add(other, "ab");
        CHECK.due("words() of an object that another one must not touch", x.words(), 0);
    }

    private static void typing() {
        CHECK.promise(2, "type");
        DodgingHangman x = new DodgingHangman();
        CHECK.due("type(32)", x.type(32), DodgingHangman.BAD_VALUE);
        CHECK.due("type(127)", x.type(127), DodgingHangman.BAD_VALUE);
        CHECK.due("type(-1)", x.type(-1), DodgingHangman.BAD_VALUE);
        CHECK.due("type(65536 + 97)", x.type(65536 + 97), DodgingHangman.BAD_VALUE);
        CHECK.due("type(MIN)", x.type(Integer.MIN_VALUE), DodgingHangman.BAD_VALUE);
        CHECK.due("type(MAX)", x.type(Integer.MAX_VALUE), DodgingHangman.BAD_VALUE);
        CHECK.due("type(33), the lowest", x.type(33), 1);
        CHECK.due("type(126), the highest", x.type(126), 2);
        for (int length = 3; length <= 80; length++) {
            CHECK.due("type(98)", x.type(98), length);
        }
        CHECK.due("type(98) at 80", x.type(98), DodgingHangman.LIMIT);
        CHECK.due("type(32) at 80", x.type(32), DodgingHangman.BAD_VALUE);
        CHECK.due("clearText() after 80", x.clearText(), 80);
        CHECK.due("type(98) after clearText()", x.type(98), 1);
    }

    private static void clearing() {
        CHECK.promise(3, "clearText");
        DodgingHangman x = new DodgingHangman();
        CHECK.due("clearText() of the empty text", x.clearText(), 0);
        Check.type(x, "abc");
        CHECK.due("clearText()", x.clearText(), 3);
        CHECK.due("clearText() again", x.clearText(), 0);
        CHECK.due("syntaxError() of the text that was made empty", x.syntaxError(), 0);
    }

    private static void syntax() {
        CHECK.promise(4, "syntaxError");
        error("", 0);
        error("a", 1);
        error("ab", DodgingHangman.NONE);
        error("abcdefgh", DodgingHangman.NONE);
        error("abcdefghi", 8);
        error("abcdefghi,ab", 8);
        error("abcdefgh,", 9);
        error("a,ab", 1);
        error(",", 0);
        error(",ab", 0);
        error("ab,", 3);
        error("ab,a", 4);
        error("ab,,ab", 3);
        error("ab,cd", DodgingHangman.NONE);
        error("ab,cd,abcdefgh", DodgingHangman.NONE);
        error("ab,cd,abcdefghi", 14);
        error("Ab", 0);
        error("aB", 1);
        error("az", DodgingHangman.NONE);
        error("a`", 1);
        error("a{", 1);
        error("ab;cd", 2);
        error("ab-", 2);
        error("ab+cd", 2);
        error("ab,1", 3);
        error("!", 0);
        error("~~", 0);
        String full = "ab,".repeat(26) + "ab";
        error(full, DodgingHangman.NONE);
        error("ab,".repeat(26) + "a!", 79);
        error("abc,".repeat(20), 80);
        error("abcdefgh,".repeat(8) + "abcdefgh", DodgingHangman.NONE);
        CHECK.due("a full text's length", full.length(), 80);
    }

    private static void error(String text, int want) {
        DodgingHangman x = new DodgingHangman();
        Check.type(x, text);
        CHECK.due("syntaxError() of \"" + text + "\"", x.syntaxError(), want);
        CHECK.due("clearText(), as syntaxError() changes nothing", x.clearText(), text.length());
    }
}
