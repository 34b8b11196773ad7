/** The sentences of promises 1 to 4: a new object, and the text. */
public final class SentencesOfTextTest {
    private static final int NO_SUCH = DodgingHangman.NO_SUCH;
    private static final int BAD_VALUE = DodgingHangman.BAD_VALUE;
    private static final int NOT_POSSIBLE = DodgingHangman.NOT_POSSIBLE;
    private static final int LIMIT = DodgingHangman.LIMIT;
    private static final int BAD_TEXT = DodgingHangman.BAD_TEXT;
    private static final int NONE = DodgingHangman.NONE;
    private static final String LIST_OF_80 = "ab,".repeat(26) + "cd";

    public static void main(String[] args) {
        Sentences s = Sentences.tested("SentencesOfTextTest");
        tell(s);
        s.end();
    }

    static void tell(Sentences s) {
        newObject(s);
        type(s);
        clearText(s);
        syntaxError(s);
    }

    private static void newObject(Sentences s) {
        s.under("Promise 1: A new object");
        s.test("Creates a program with an empty list and no game", () -> {
            DodgingHangman x = new DodgingHangman();
            s.due("words()", x.words(), 0);
            s.due("letterOf(0, 0)", x.letterOf(0, 0), NO_SUCH);
            s.due("status()", x.status(), 0);
            s.due("lives()", x.lives(), 0);
            s.due("shown(0)", x.shown(0), NO_SUCH);
            s.due("candidates()", x.candidates(), 0);
            s.due("candidate(0)", x.candidate(0), NO_SUCH);
            s.due("guesses()", x.guesses(), 0);
            s.due("guessAt(0)", x.guessAt(0), NO_SUCH);
            s.due("bestGuess()", x.bestGuess(), NOT_POSSIBLE);
            for (int what = 0; what <= 6; what++) {
                s.due("total(" + what + ")", x.total(what), 0);
            }
            s.due("undo()", x.undo(), NOT_POSSIBLE);
            s.due("clearText()", x.clearText(), 0);
            Scene.RUNNING.steps().made();
            s.same("a new object beside another one", Portrait.of(y -> Scene.FULL_LIST.steps().made()),
                    Portrait.of(Scene.NEW.steps()));
        });
    }

    private static void type(Sentences s) {
        s.under("Promise 2: type");
        s.test("Appends a character to the text", () -> {
            DodgingHangman x = new DodgingHangman();
            Check.add(x, "ab,cde");
            s.same("the list of the words that were typed", Check.list(x), "ab,cde");
            for (Scene scene : Scene.ALL) {
                Steps typed = scene.steps().then(y -> y.type('a'));
                s.same("the state after type(97), " + scene.name(), Portrait.ofState(typed),
                        Portrait.ofState(scene.steps()));
            }
        });
        s.test("character code, 33 to 126", () -> {
            for (int code = 33; code <= 126; code++) {
                s.due("type(" + code + ")", new DodgingHangman().type(code), 1);
            }
        });
        s.test("Returns the new length of the text", () -> {
            DodgingHangman x = new DodgingHangman();
            for (int length = 1; length <= 80; length++) {
                s.due("type(33)", x.type(33), length);
            }
            x.clearText();
            s.due("type(33) after clearText()", x.type(33), 1);
            s.due("type(97) after a text that stayed", Scene.RUNNING.steps().made().type('a'), 3);
        });
        s.test("BAD_VALUE if code is out of range", () -> {
            s.changesNothing("type(32)", x -> x.type(32), BAD_VALUE, Scene.ALL);
            s.changesNothing("type(127)", x -> x.type(127), BAD_VALUE, Scene.ALL);
            for (int code : new int[] {0, -1, 31, 128, 97 + 256, 97 + 65536, 97 - 65536}) {
                s.changesNothing("type(" + code + ")", x -> x.type(code), BAD_VALUE, Scene.RUNNING);
            }
            for (int code : Sentences.FAR) {
                s.changesNothing("type(" + code + ")", x -> x.type(code), BAD_VALUE, Scene.NEW);
            }
        });
        s.test("LIMIT if the text has 80 characters", () -> {
            Scene[] full = Scene.withText(LIST_OF_80, Scene.ALL);
            s.changesNothing("type(97)", x -> x.type('a'), LIMIT, full);
            s.changesNothing("type(33), the lowest", x -> x.type(33), LIMIT, full[0]);
            s.changesNothing("type(126), the highest", x -> x.type(126), LIMIT, full[0]);
            DodgingHangman x = Scene.NEW.withText("a".repeat(79)).steps().made();
            s.due("type(126) with 79 characters", x.type(126), 80);
            s.due("type(97) with 80 characters", x.type('a'), LIMIT);
            s.due("type(97) with 80 characters, again", x.type('a'), LIMIT);
        });
    }

    private static void clearText(Sentences s) {
        s.under("Promise 3: clearText");
        s.test("Makes the text empty", () -> {
            for (Scene scene : Scene.ALL) {
                Steps cleared = scene.withText("xy").steps().then(x -> x.clearText());
                s.due("clearText() again, " + scene.name(), cleared.made().clearText(), 0);
                s.due("syntaxError() of the empty text", cleared.made().syntaxError(), 0);
                s.same("the state after clearText(), " + scene.name(), Portrait.ofState(cleared),
                        Portrait.ofState(scene.steps()));
                s.due("a word typed after clearText()", cleared.then(x -> x.type('a')).made().clearText(), 1);
            }
            DodgingHangman x = Scene.NEW.withText("xyz,").steps().made();
            x.clearText();
            Check.add(x, "ab");
            s.same("the list, without what was cleared", Check.list(x), "ab");
        });
        s.test("Returns the previous length of the text", () -> {
            s.changesNothing("clearText() of the empty text", x -> x.clearText(), 0, Scene.NEW, Scene.FULL_LIST);
            for (int length : new int[] {1, 2, 79, 80}) {
                s.due("clearText()", Scene.RUNNING.withText("!".repeat(length)).steps().made().clearText(), length);
            }
            s.due("clearText() after an 81st character", Scene.NEW.withText("a".repeat(81)).steps().made().clearText(), 80);
        });
    }

    private static void error(Sentences s, String text, int want) {
        s.changesNothing("syntaxError()", x -> x.syntaxError(), want, Scene.NEW.withText(text));
    }

    private static void syntaxError(Sentences s) {
        s.under("Promise 4: syntaxError");
        s.names("Finds the first syntax error of the text");
        s.test("Returns the index of the first character for which no word list, of any length, begins with the "
                + "characters of the text up to and including this one", () -> {
            error(s, ",", 0);
            error(s, "A", 0);
            error(s, "`", 0);
            error(s, "{", 0);
            error(s, "!ab", 0);
            error(s, "a,", 1);
            error(s, "a,bc", 1);
            error(s, "ab!", 2);
            error(s, "ab,,", 3);
            error(s, "ab,c,de", 4);
            error(s, "abcdefghi", 8);
            error(s, "abcdefghij", 8);
            error(s, "ab,abcdefghi", 11);
            error(s, "abcdefgh,abcdefgh!", 17);
            error(s, "a!b!", 1);
            error(s, "a".repeat(80), 8);
            error(s, "ab,".repeat(26) + "a,", 79);
            error(s, "ab,".repeat(26) + "a1", 79);
            error(s, "ab,".repeat(26) + ",,", 78);
            error(s, "abcdefgh,".repeat(8) + "abcdefg1", 79);
        });
        s.test("the length of the text if there is no such character but the text is not a word list (this holds for the "
                + "empty text)", () -> {
            error(s, "", 0);
            error(s, "a", 1);
            error(s, "ab,", 3);
            error(s, "ab,c", 4);
            error(s, "abcdefgh,", 9);
            // A longer list than the text can have begins with these 80 characters.
            error(s, "abc,".repeat(20), 80);
            error(s, "ab,".repeat(25) + "abc,a", 80);
        });
        s.test("NONE if the text is a word list", () -> {
            error(s, "ab", NONE);
            error(s, "az", NONE);
            error(s, "abcdefgh", NONE);
            error(s, "ab,ab", NONE);
            error(s, "ab,abcdefgh,abc", NONE);
            error(s, LIST_OF_80, NONE);
            error(s, "abcdefgh,".repeat(8) + "abcdefgh", NONE);
            // Whether the words have room in the list does not matter.
            s.changesNothing("syntaxError()", x -> x.syntaxError(), NONE, Scene.withText("ab,zz", Scene.ALL));
            s.due("addWords() of a text that is no list", Scene.NEW.withText("ab,").steps().made().addWords(), BAD_TEXT);
        });
    }
}
