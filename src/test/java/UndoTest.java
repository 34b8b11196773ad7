/** Promises 29 and 30: undo, what is undoable, and digest. */
public final class UndoTest {
    private static final Check CHECK = new Check("UndoTest");

    public static void main(String[] args) {
        undoOfEachCall();
        undoBackIntoAnEarlierGame();
        savedStates();
        whatSavesNothing();
        textIsNotRestored();
        digestOfNew();
        digestOfGames();
        CHECK.end();
    }

    private static void undoOfEachCall() {
        CHECK.promise(29, "undo of each undoable call");
        DodgingHangman x = Check.withWords("ab,cd,ce,xyz");
        long[] before = new long[6];
        x.start(2, 3);
        before[0] = x.digest();
        CHECK.due("setPolicy(1)", x.setPolicy(1), 0);
        before[1] = x.digest();
        CHECK.due("guess(a)", x.guess('a'), 0);
        before[2] = x.digest();
        CHECK.due("guessWord()", Check.guessWord(x, "zz"), 0);
        before[3] = x.digest();
        CHECK.due("giveUp()", x.giveUp(), 1);
        before[4] = x.digest();
        CHECK.due("removeWord(0)", x.removeWord(0), 3);
        before[5] = x.digest();
        CHECK.due("addWords()", Check.add(x, "op,ij"), 2);
        for (int left = 5; left >= 0; left--) {
            CHECK.due("undo()", x.undo(), left);
            CHECK.due("digest() with " + left + " left", x.digest(), before[left]);
        }
        CHECK.due("undo()", x.undo(), DodgingHangman.NOT_POSSIBLE);
        CHECK.due("the policy, which is restored", x.setPolicy(2), 0);
        CHECK.due("undo()", x.undo(), 0);
        CHECK.due("the policy, which is restored", x.setPolicy(0), 0);
        x.undo();
        CHECK.due("start(3, 1)", x.start(3, 1), 1);
        CHECK.due("undo() of start()", x.undo(), 0);
        CHECK.due("digest() before start()", x.digest(), before[0]);
        CHECK.holds("candidates", Check.candidates(x).equals("ab,cd,ce"));

        x.guess('c');
        x.guess('e');
        x.guess('d');
        CHECK.due("status() of a game that is won", x.status(), 2);
        x.undo();
        CHECK.due("status() before", x.status(), 1);
        CHECK.holds("guessed letters", Check.guessed(x).equals("ce"));
        CHECK.holds("pattern " + Check.pattern(x), Check.pattern(x).equals("c."));
        CHECK.due("total(1)", x.total(1), 0);
        CHECK.due("guess(d) again", x.guess('d'), 1);
        CHECK.holds("pattern " + Check.pattern(x), Check.pattern(x).equals("cd"));
    }

    private static void undoBackIntoAnEarlierGame() {
        CHECK.promise(29, "undo of the next game");
        DodgingHangman x = Check.withWords("ab,cd,ce,xyz");
        x.start(2, 9);
        x.guess('q');
        x.guess('c');
        x.start(3, 2);
        x.guess('x');
        x.guess('z');
        x.undo();
        x.undo();
        CHECK.due("undo()", x.undo(), 3);
        CHECK.holds("guessed letters " + Check.guessed(x), Check.guessed(x).equals("qc"));
        CHECK.holds("pattern " + Check.pattern(x), Check.pattern(x).equals("c."));
        CHECK.holds("candidates " + Check.candidates(x), Check.candidates(x).equals("cd,ce"));
        CHECK.due("lives()", x.lives(), 8);
        CHECK.due("total(0)", x.total(0), 1);
        CHECK.due("total(3)", x.total(3), 2);
        CHECK.due("guess(c), guessed in this game", x.guess('c'), DodgingHangman.NONE);
        CHECK.due("guess(x), not guessed in this game", x.guess('x'), 0);
    }

    private static void savedStates() {
        CHECK.promise(29, "undo: at most six states");
        DodgingHangman x = new DodgingHangman();
        CHECK.due("undo() of a new object", x.undo(), DodgingHangman.NOT_POSSIBLE);
        Check.add(x, "ab,bc,cd,de,ef,fg,gh,hi,ij");
        for (int i = 0; i < 8; i++) {
            x.removeWord(0);
        }
        for (int left = 5; left >= 0; left--) {
            CHECK.due("undo()", x.undo(), left);
            CHECK.due("words()", x.words(), 7 - left);
        }
        CHECK.holds("the list is " + Check.list(x), Check.list(x).equals("cd,de,ef,fg,gh,hi,ij"));
        CHECK.due("undo() of no state", x.undo(), DodgingHangman.NOT_POSSIBLE);
        CHECK.due("words()", x.words(), 7);
        x.removeWord(6);
        x.removeWord(5);
        CHECK.due("undo()", x.undo(), 1);
        x.removeWord(0);
        CHECK.due("undo() of the newer", x.undo(), 1);
        CHECK.holds("the list is " + Check.list(x), Check.list(x).equals("cd,de,ef,fg,gh,hi"));
        CHECK.due("undo() of the older", x.undo(), 0);
        CHECK.holds("the list is " + Check.list(x), Check.list(x).equals("cd,de,ef,fg,gh,hi,ij"));
    }

    private static void whatSavesNothing() {
        CHECK.promise(29, "undo: what saves no state");
        DodgingHangman x = Check.withWords("ab,cd");
        x.start(2, 9);
        x.guess('z');
        CHECK.due("guess(z) again", x.guess('z'), DodgingHangman.NONE);
        CHECK.due("guess(96)", x.guess(96), DodgingHangman.BAD_VALUE);
        CHECK.due("guessWord()", x.guessWord(), DodgingHangman.BAD_TEXT);
        CHECK.due("guessWord()", Check.guessWord(x, "abc"), DodgingHangman.NOT_POSSIBLE);
        CHECK.due("addWords()", x.addWords(), DodgingHangman.NOT_POSSIBLE);
        CHECK.due("removeWord(0)", x.removeWord(0), DodgingHangman.NOT_POSSIBLE);
        CHECK.due("removeWord(2)", x.removeWord(2), DodgingHangman.NO_SUCH);
        CHECK.due("setPolicy(3)", x.setPolicy(3), DodgingHangman.BAD_VALUE);
        CHECK.due("start(9, 9)", x.start(9, 9), DodgingHangman.BAD_VALUE);
        CHECK.due("start(8, 9)", x.start(8, 9), DodgingHangman.NOT_POSSIBLE);
        x.missesAhead();
        x.bestGuess();
        x.family('a', 0, 0);
        x.digest();
        x.clearText();
        CHECK.due("undo() of guess(z)", x.undo(), 2);
        CHECK.due("guesses()", x.guesses(), 0);
        CHECK.due("undo() of start()", x.undo(), 1);
        CHECK.due("status()", x.status(), 0);
        CHECK.due("giveUp()", x.giveUp(), DodgingHangman.NOT_POSSIBLE);
        CHECK.due("undo() of addWords()", x.undo(), 0);
        CHECK.due("words()", x.words(), 0);
    }

    private static void textIsNotRestored() {
        CHECK.promise(29, "undo: the text stays");
        DodgingHangman x = Check.withWords("ab,cd");
        x.undo();
        CHECK.due("clearText(), as addWords() made it empty", x.clearText(), 0);
        Check.add(x, "ab,cd");
        x.start(2, 5);
        Check.guessWord(x, "zz");
        Check.type(x, "cde");
        x.undo();
        CHECK.due("lives()", x.lives(), 5);
        CHECK.due("clearText(), as undo() keeps it", x.clearText(), 3);
    }

    private static void digestOfNew() {
        CHECK.promise(30, "digest");
        // words, status, lives, candidates, guesses and seven totals, all 0.
        CHECK.due("digest() of a new object", new DodgingHangman().digest(), hash(131, new long[12]));
        DodgingHangman x = Check.withWords("ab,cde");
        long[] list = {2, 2, 97, 98, 3, 99, 100, 101, 0, 0, 0, 0, 0, 0, 0, 0, 0, 0, 0};
        CHECK.due("digest() of a list", x.digest(), hash(131, list));
        Check.type(x, "xy");
        x.setPolicy(2);
        CHECK.due("digest(), which tells no text and no policy", x.digest(), hash(131, list));
    }

    private static void digestOfGames() {
        CHECK.promise(30, "digest of games");
        DodgingHangman x = Check.withWords("ab,ba,cde");
        x.start(2, 4);
        x.guess('z');
        long[] list = {3, 2, 97, 98, 2, 98, 97, 3, 99, 100, 101};
        long start = hash(131, list);
        long[] running = {1, 3, -6, -6, 2, 0, 1, 1, 122, 3, 97, 1, 0, 0, 1, 0, 1, 0};
        CHECK.due("digest() of a game that is running", x.digest(), hash(start, running));
        x.giveUp();
        long[] lost = {3, 3, -6, -6, 2, 0, 1, 1, 122, 1, 0, 1, 1, 0, 1, 0};
        CHECK.due("digest() of a game that is lost", x.digest(), hash(start, lost));
        x.start(2, 4);
        x.guess('a');
        // Running again: "a" is shown at place 0, so the best family is ab.
        long[] shown = {1, 4, 97, -6, 1, 0, 1, 97, 2, 98, 2, 0, 1, 2, 0, 1, 0};
        CHECK.due("digest() with a letter that is shown", x.digest(), hash(start, shown));
    }

    private static long hash(long start, long[] values) {
        long hash = start;
        for (long value : values) {
            hash = 31 * hash + value;
        }
        return hash;
    }
}
