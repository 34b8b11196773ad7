import java.util.ArrayList;
import java.util.List;

/**
 * All that can be asked of an object, as lines. Some questions change the object, and 512 calls are not enough for
 * all of them, so each group of questions is put to a new object that the same steps have brought there.
 */
final class Portrait {
    private static final int MOST_SAVED = 6;

    private final List<String> lines = new ArrayList<>();
    private final Steps steps;

    private Portrait(Steps steps) {
        this.steps = steps;
    }

    static List<String> of(Steps steps) {
        Portrait portrait = new Portrait(steps);
        portrait.tellState();
        portrait.tellText();
        portrait.tellSavedStates();
        return portrait.lines;
    }

    /** What undo restores: everything except the text and the saved states. */
    static List<String> ofState(Steps steps) {
        Portrait portrait = new Portrait(steps);
        portrait.tellState();
        return portrait.lines;
    }

    /** What is told of the game alone, by calls that do not ask whether it is running. */
    static List<String> ofGame(Steps steps) {
        Portrait portrait = new Portrait(steps);
        portrait.tellGame(steps.made());
        for (int letter = 'a'; letter <= 'z'; letter++) {
            portrait.tell("having " + (char) letter, steps.made().having(letter));
        }
        return portrait.lines;
    }

    private void tell(String what, long answer) {
        lines.add(what + ": " + answer);
    }

    private void tellState() {
        lines.add("list: " + Check.list(steps.made()));
        tellGame(steps.made());
        DodgingHangman x = steps.made();
        for (int what = -1; what <= 7; what++) {
            tell("total " + what, x.total(what));
        }
        tell("sureLetters", x.sureLetters());
        tell("bestGuess", x.bestGuess());
        tell("missesAhead", x.missesAhead());
        tell("digest", x.digest());
        tell("policy", x.setPolicy(0));
        for (int letter = 'a'; letter <= 'z'; letter++) {
            tellLetter(steps.made(), letter);
        }
    }

    private void tellGame(DodgingHangman x) {
        tell("status", x.status());
        tell("lives", x.lives());
        for (int place = -1; place <= 8; place++) {
            tell("shown " + place, x.shown(place));
        }
        tell("candidates", x.candidates());
        for (int index = -1; index <= 30; index++) {
            tell("candidate " + index, x.candidate(index));
        }
        tell("guesses", x.guesses());
        for (int index = -1; index <= 26; index++) {
            tell("guessAt " + index, x.guessAt(index));
        }
    }

    private void tellLetter(DodgingHangman x, int letter) {
        String name = " " + (char) letter;
        int families = x.families(letter);
        tell("families" + name, families);
        tell("spread" + name, x.spread(letter));
        tell("having" + name, x.having(letter));
        for (int rank = 0; rank <= families; rank++) {
            for (int what = 0; what < 4; what++) {
                tell("family" + name + " " + rank + " " + what, x.family(letter, rank, what));
            }
        }
    }

    /** The text is read by making its words the list, in an object without words; some endings make it a list. */
    private void tellText() {
        tell("syntaxError", steps.made().syntaxError());
        tell("length of the text", steps.made().clearText());
        for (String end : new String[] {"", "z", "zz", ",zz"}) {
            DodgingHangman x = steps.made();
            x.giveUp();
            for (int left = x.words(); left > 0; left--) {
                x.removeWord(0);
            }
            Check.type(x, end);
            tell("addWords with the end " + end, x.addWords());
            lines.add("its words: " + Check.list(x));
        }
    }

    private void tellSavedStates() {
        int answer = 0;
        for (int back = 1; back <= MOST_SAVED + 1 && answer >= 0; back++) {
            DodgingHangman x = steps.made();
            for (int i = 0; i < back; i++) {
                answer = x.undo();
            }
            tell("undo " + back, answer);
            tell("digest after undo " + back, x.digest());
            tell("policy after undo " + back, x.setPolicy(0));
        }
    }
}
