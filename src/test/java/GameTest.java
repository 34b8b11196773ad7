/** Promises 9 to 20: the game. */
public final class GameTest {
    private static final Check CHECK = new Check("GameTest");
    // Candidates of four letters whose families for "e" are told in the comments below.
    private static final String FOURS = "ally,beta,cool,deal,else,flew,good,hope,ibex";

    public static void main(String[] args) {
        policyValues();
        starting();
        guessBySize();
        guessByMiss();
        guessByFreshness();
        guessFaults();
        losing();
        guessingWords();
        givingUp();
        whatStaysAfterAGame();
        CHECK.end();
    }

    private static void policyValues() {
        CHECK.promise(9, "setPolicy");
        DodgingHangman x = new DodgingHangman();
        CHECK.due("setPolicy(-1)", x.setPolicy(-1), DodgingHangman.BAD_VALUE);
        CHECK.due("setPolicy(3)", x.setPolicy(3), DodgingHangman.BAD_VALUE);
        CHECK.due("setPolicy(MIN)", x.setPolicy(Integer.MIN_VALUE), DodgingHangman.BAD_VALUE);
        CHECK.due("setPolicy(MAX)", x.setPolicy(Integer.MAX_VALUE), DodgingHangman.BAD_VALUE);
        CHECK.due("setPolicy(2)", x.setPolicy(2), 0);
        CHECK.due("setPolicy(1)", x.setPolicy(1), 2);
        CHECK.due("setPolicy(1) again", x.setPolicy(1), 1);
        CHECK.due("setPolicy(0)", x.setPolicy(0), 1);
        Check.add(x, "ab,cd");
        x.start(2, 3);
        CHECK.due("setPolicy(2) while a game is running", x.setPolicy(2), 0);
        CHECK.due("status()", x.status(), 1);
        x.start(2, 3);
        CHECK.due("setPolicy(0), as start() keeps the policy", x.setPolicy(0), 2);
    }

    private static void starting() {
        CHECK.promise(10, "start");
        DodgingHangman x = new DodgingHangman();
        CHECK.due("start(2, 1) of the empty list", x.start(2, 1), DodgingHangman.NOT_POSSIBLE);
        Check.add(x, "ab,cd,abc,abcdefgh,bcdefgha,cdefghab");
        CHECK.due("start(1, 1)", x.start(1, 1), DodgingHangman.BAD_VALUE);
        CHECK.due("start(9, 1)", x.start(9, 1), DodgingHangman.BAD_VALUE);
        CHECK.due("start(2, 0)", x.start(2, 0), DodgingHangman.BAD_VALUE);
        CHECK.due("start(2, 21)", x.start(2, 21), DodgingHangman.BAD_VALUE);
        CHECK.due("start(4, 21)", x.start(4, 21), DodgingHangman.BAD_VALUE);
        CHECK.due("start(MIN, 1)", x.start(Integer.MIN_VALUE, 1), DodgingHangman.BAD_VALUE);
        CHECK.due("start(2, MIN)", x.start(2, Integer.MIN_VALUE), DodgingHangman.BAD_VALUE);
        CHECK.due("start(4, 1)", x.start(4, 1), DodgingHangman.NOT_POSSIBLE);
        CHECK.due("status() after faults", x.status(), 0);
        CHECK.due("start(2, 1)", x.start(2, 1), 2);
        CHECK.due("status()", x.status(), 1);
        CHECK.due("lives()", x.lives(), 1);
        CHECK.holds("candidates", Check.candidates(x).equals("ab,cd"));
        CHECK.holds("pattern", Check.pattern(x).equals(".."));
        x.guess('a');
        CHECK.due("start(4, 1) while a game is running", x.start(4, 1), DodgingHangman.NOT_POSSIBLE);
        CHECK.due("status(), as the lost game stays", x.status(), 3);
        CHECK.due("start(8, 20)", x.start(8, 20), 3);
        CHECK.due("lives()", x.lives(), 20);
        CHECK.due("guesses()", x.guesses(), 0);
        CHECK.due("guessAt(0)", x.guessAt(0), DodgingHangman.NO_SUCH);
        CHECK.holds("pattern", Check.pattern(x).equals("........"));
        CHECK.due("candidate(0)", x.candidate(0), 2);
        CHECK.due("candidate(1)", x.candidate(1), 3);
        CHECK.due("total(2) before", x.total(2), 1);
        CHECK.due("start(3, 5) while a game is running", x.start(3, 5), 1);
        CHECK.due("total(2), as a game that is given up so is not lost", x.total(2), 1);
        CHECK.due("total(0)", x.total(0), 3);
        CHECK.due("start(3, 21) while a game is running", x.start(3, 21), DodgingHangman.BAD_VALUE);
        CHECK.due("lives() after it", x.lives(), 5);
    }

    private static void guessBySize() {
        CHECK.promise(11, "guess, policy 0");
        // "e": mask 0 ally cool good; mask 2 beta deal; mask 9 else; mask 4 flew ibex; mask 8 hope.
        DodgingHangman x = Check.withWords(FOURS);
        x.start(4, 5);
        CHECK.due("guess(e)", x.guess('e'), 0);
        CHECK.holds("candidates", Check.candidates(x).equals("ally,cool,good"));
        CHECK.due("lives()", x.lives(), 4);
        CHECK.due("total(5)", x.total(5), 1);
        CHECK.due("total(6), a dodge", x.total(6), 1);
        CHECK.due("guess(e) again", x.guess('e'), DodgingHangman.NONE);
        CHECK.due("lives() after NONE", x.lives(), 4);
        CHECK.due("guesses() after NONE", x.guesses(), 1);
        CHECK.due("guess(z), of no candidate", x.guess('z'), 0);
        CHECK.due("lives()", x.lives(), 3);
        CHECK.due("total(6), no dodge", x.total(6), 1);
        CHECK.due("guess(o)", x.guess('o'), 2);
        CHECK.holds("pattern", Check.pattern(x).equals(".oo."));
        CHECK.due("lives(), as it is no miss", x.lives(), 3);
        // "c": mask 0 good, mask 1 cool: of the same size, so fewer places.
        CHECK.due("guess(c)", x.guess('c'), 0);
        CHECK.holds("candidates", Check.candidates(x).equals("good"));
        CHECK.due("guess(g)", x.guess('g'), 1);
        CHECK.due("status()", x.status(), 1);
        CHECK.due("guess(d)", x.guess('d'), 1);
        CHECK.due("status()", x.status(), 2);
        CHECK.holds("pattern", Check.pattern(x).equals("good"));
        CHECK.holds("guessed letters", Check.guessed(x).equals("ezocgd"));
        CHECK.due("total(1)", x.total(1), 1);
        CHECK.due("total(3)", x.total(3), 6);
        CHECK.due("total(5)", x.total(5), 3);
        CHECK.due("total(6)", x.total(6), 2);

        // "a": masks 3, 4 and 8 of size 1 each: fewer places, then the lower mask.
        DodgingHangman y = Check.withWords("aabb,bbac,bbca");
        y.start(4, 1);
        CHECK.due("guess(a)", y.guess('a'), 1);
        CHECK.holds("pattern", Check.pattern(y).equals("..a."));
    }

    private static void guessByMiss() {
        CHECK.promise(11, "guess, policy 1");
        DodgingHangman x = Check.withWords("aa,ab,ac,ad,bc");
        x.setPolicy(1);
        x.start(2, 2);
        CHECK.due("guess(a)", x.guess('a'), 0);
        CHECK.holds("candidates", Check.candidates(x).equals("bc"));
        CHECK.due("total(6)", x.total(6), 1);
        CHECK.due("guess(b), without a family 0", x.guess('b'), 1);
        DodgingHangman y = Check.withWords("aa,ab,ac,ba");
        y.setPolicy(1);
        y.start(2, 2);
        CHECK.due("guess(a), by policy 0 where no candidate is without it", y.guess('a'), 1);
        CHECK.holds("candidates", Check.candidates(y).equals("ab,ac"));
    }

    private static void guessByFreshness() {
        CHECK.promise(11, "guess, policy 2");
        // "a": mask 0 bb bc cb (fresh b c), mask 1 ad ae af ag (fresh d e f g).
        DodgingHangman x = Check.withWords("ad,ae,af,bb,bc,cb,bd");
        x.setPolicy(2);
        x.start(2, 9);
        // Both families are of freshness 3: the size decides.
        CHECK.due("family(a, 0, 3)", x.family('a', 0, 3), 3);
        CHECK.due("family(a, 1, 3)", x.family('a', 1, 3), 3);
        CHECK.due("family(a, 0, 1)", x.family('a', 0, 1), 0);
        x.guess('c');
        // Left: ad ae af bb bd; "a" now: mask 0 bb bd (fresh b d), mask 1 (fresh d e f).
        CHECK.holds("candidates", Check.candidates(x).equals("ad,ae,af,bb,bd"));
        CHECK.due("guess(a)", x.guess('a'), 1);
        CHECK.holds("candidates", Check.candidates(x).equals("ad,ae,af"));

        // A smaller family with more fresh letters is better.
        DodgingHangman y = Check.withWords("abcde,zfzff,zffzz,ffzzz");
        y.setPolicy(2);
        y.start(5, 3);
        CHECK.due("guess(a)", y.guess('a'), 1);
        CHECK.holds("candidates", Check.candidates(y).equals("abcde"));
    }

    private static void guessFaults() {
        CHECK.promise(11, "guess, wrong letters and no game");
        DodgingHangman x = Check.withWords("ab,cd");
        CHECK.due("guess(97) without a game", x.guess(97), DodgingHangman.NOT_POSSIBLE);
        CHECK.due("guess(96) without a game", x.guess(96), DodgingHangman.BAD_VALUE);
        x.start(2, 4);
        CHECK.due("guess(96)", x.guess(96), DodgingHangman.BAD_VALUE);
        CHECK.due("guess(123)", x.guess(123), DodgingHangman.BAD_VALUE);
        CHECK.due("guess(0)", x.guess(0), DodgingHangman.BAD_VALUE);
        CHECK.due("guess(MIN)", x.guess(Integer.MIN_VALUE), DodgingHangman.BAD_VALUE);
        CHECK.due("guess(MAX)", x.guess(Integer.MAX_VALUE), DodgingHangman.BAD_VALUE);
        CHECK.due("guesses()", x.guesses(), 0);
        CHECK.due("guess(122), the highest", x.guess(122), 0);
        CHECK.due("guess(97), the lowest", x.guess(97), 0);
        x.giveUp();
        CHECK.due("guess(97) after the game, though it was guessed", x.guess(97), DodgingHangman.NOT_POSSIBLE);
        CHECK.due("guess(123) after the game", x.guess(123), DodgingHangman.BAD_VALUE);
    }

    private static void losing() {
        CHECK.promise(15, "lives");
        DodgingHangman x = Check.withWords("ab,cd,ef");
        x.start(2, 2);
        x.guess('z');
        CHECK.due("lives()", x.lives(), 1);
        CHECK.due("status()", x.status(), 1);
        x.guess('y');
        CHECK.due("lives()", x.lives(), 0);
        CHECK.promise(14, "status");
        CHECK.due("status()", x.status(), 3);
        CHECK.due("total(2)", x.total(2), 1);
        CHECK.due("total(1)", x.total(1), 0);
    }

    private static void guessingWords() {
        CHECK.promise(12, "guessWord");
        DodgingHangman x = Check.withWords("ab,cd,efg");
        CHECK.due("guessWord() of the empty text, no game", x.guessWord(), DodgingHangman.BAD_TEXT);
        CHECK.due("guessWord() without a game", Check.guessWord(x, "ab"), DodgingHangman.NOT_POSSIBLE);
        CHECK.due("clearText(), as the text stays", x.clearText(), 2);
        x.start(2, 3);
        CHECK.due("guessWord(), empty", x.guessWord(), DodgingHangman.BAD_TEXT);
        for (String bad : new String[] {"a", "ab,cd", "ab,", "abcdefghi", "aB", "ab,ab"}) {
            CHECK.due("guessWord() of " + bad, Check.guessWord(x, bad), DodgingHangman.BAD_TEXT);
            CHECK.due("clearText() of " + bad, x.clearText(), bad.length());
        }
        CHECK.due("guessWord() of another length", Check.guessWord(x, "efg"), DodgingHangman.NOT_POSSIBLE);
        x.clearText();
        CHECK.due("total(4)", x.total(4), 0);
        CHECK.due("guessWord() of a word that is not in the list", Check.guessWord(x, "zz"), 0);
        CHECK.due("clearText(), as the text was made empty", x.clearText(), 0);
        CHECK.due("lives()", x.lives(), 2);
        CHECK.due("candidates()", x.candidates(), 2);
        CHECK.due("total(6)", x.total(6), 0);
        CHECK.due("guessWord() of one of two candidates", Check.guessWord(x, "ab"), 0);
        CHECK.due("lives()", x.lives(), 1);
        CHECK.holds("candidates", Check.candidates(x).equals("cd"));
        CHECK.due("total(5)", x.total(5), 2);
        CHECK.due("total(6), a dodge", x.total(6), 1);
        CHECK.due("guessWord() of the only candidate", Check.guessWord(x, "cd"), 1);
        CHECK.due("status()", x.status(), 2);
        CHECK.holds("pattern", Check.pattern(x).equals("cd"));
        CHECK.due("candidates()", x.candidates(), 1);
        CHECK.due("lives()", x.lives(), 1);
        CHECK.due("guesses()", x.guesses(), 0);
        CHECK.due("total(1)", x.total(1), 1);
        CHECK.due("total(3)", x.total(3), 0);
        CHECK.due("total(4)", x.total(4), 3);
        CHECK.due("guessWord() after the game", Check.guessWord(x, "cd"), DodgingHangman.NOT_POSSIBLE);
        x.clearText();

        x.start(2, 2);
        Check.guessWord(x, "ab");
        CHECK.due("guessWord() of a word that is no candidate any more", Check.guessWord(x, "ab"), 0);
        CHECK.due("status(), no lives are left", x.status(), 3);
        CHECK.due("total(6)", x.total(6), 2);
        CHECK.due("total(5)", x.total(5), 4);
        CHECK.holds("pattern", Check.pattern(x).equals(".."));
        CHECK.holds("candidates", Check.candidates(x).equals("cd"));
        CHECK.due("clearText()", x.clearText(), 0);
        CHECK.due("total(2)", x.total(2), 1);
    }

    private static void givingUp() {
        CHECK.promise(13, "giveUp");
        DodgingHangman x = Check.withWords("ab,cde,def,xyz");
        CHECK.due("giveUp() without a game", x.giveUp(), DodgingHangman.NOT_POSSIBLE);
        x.start(3, 4);
        x.guess('c');
        CHECK.due("giveUp()", x.giveUp(), 2);
        CHECK.due("status()", x.status(), 3);
        CHECK.due("lives()", x.lives(), 3);
        CHECK.holds("candidates", Check.candidates(x).equals("def,xyz"));
        CHECK.holds("pattern", Check.pattern(x).equals("..."));
        CHECK.due("total(2)", x.total(2), 1);
        CHECK.due("total(5)", x.total(5), 1);
        CHECK.due("giveUp() again", x.giveUp(), DodgingHangman.NOT_POSSIBLE);
        CHECK.due("total(2)", x.total(2), 1);
        x.start(2, 1);
        CHECK.due("giveUp()", x.giveUp(), 0);
    }

    private static void whatStaysAfterAGame() {
        DodgingHangman x = Check.withWords("aba,abb,cde");
        x.start(3, 7);
        x.guess('a');
        x.guess('z');
        CHECK.promise(16, "shown");
        // "a": masks 5, 1 and 0, of size 1 each: 0 has the fewest places.
        CHECK.due("shown(0)", x.shown(0), DodgingHangman.NONE);
        CHECK.due("shown(2)", x.shown(2), DodgingHangman.NONE);
        CHECK.due("shown(3)", x.shown(3), DodgingHangman.NO_SUCH);
        CHECK.due("shown(-1)", x.shown(-1), DodgingHangman.NO_SUCH);
        CHECK.due("shown(MAX)", x.shown(Integer.MAX_VALUE), DodgingHangman.NO_SUCH);
        CHECK.due("shown(MIN)", x.shown(Integer.MIN_VALUE), DodgingHangman.NO_SUCH);
        x.guess('d');
        CHECK.due("shown(1)", x.shown(1), 'd');
        x.giveUp();
        CHECK.due("shown(1) after the game", x.shown(1), 'd');
        CHECK.due("shown(0) after the game", x.shown(0), DodgingHangman.NONE);
        CHECK.due("shown(3) after the game", x.shown(3), DodgingHangman.NO_SUCH);
        CHECK.promise(17, "candidates");
        CHECK.due("candidates() after the game", x.candidates(), 1);
        CHECK.promise(18, "candidate");
        CHECK.due("candidate(0) after the game", x.candidate(0), 2);
        CHECK.due("candidate(1)", x.candidate(1), DodgingHangman.NO_SUCH);
        CHECK.due("candidate(-1)", x.candidate(-1), DodgingHangman.NO_SUCH);
        CHECK.due("candidate(MAX)", x.candidate(Integer.MAX_VALUE), DodgingHangman.NO_SUCH);
        CHECK.due("candidate(MIN)", x.candidate(Integer.MIN_VALUE), DodgingHangman.NO_SUCH);
        CHECK.promise(19, "guesses");
        CHECK.due("guesses() after the game", x.guesses(), 3);
        CHECK.promise(20, "guessAt");
        CHECK.due("guessAt(0)", x.guessAt(0), 'a');
        CHECK.due("guessAt(1)", x.guessAt(1), 'z');
        CHECK.due("guessAt(2)", x.guessAt(2), 'd');
        CHECK.due("guessAt(3)", x.guessAt(3), DodgingHangman.NO_SUCH);
        CHECK.due("guessAt(-1)", x.guessAt(-1), DodgingHangman.NO_SUCH);
        CHECK.due("guessAt(MAX)", x.guessAt(Integer.MAX_VALUE), DodgingHangman.NO_SUCH);
        CHECK.due("guessAt(MIN)", x.guessAt(Integer.MIN_VALUE), DodgingHangman.NO_SUCH);
        CHECK.promise(15, "lives");
        CHECK.due("lives() after the game", x.lives(), 5);
        x.start(3, 1);
        x.start(3, 6);
        CHECK.promise(20, "guessAt");
        CHECK.due("guessAt(0) of the next game", x.guessAt(0), DodgingHangman.NO_SUCH);

        CHECK.promise(19, "guesses");
        DodgingHangman all = Check.withWords("zy");
        all.start(2, 20);
        for (int letter = 'a'; letter <= 's'; letter++) {
            all.guess(letter);
        }
        CHECK.due("guesses()", all.guesses(), 19);
        all.guess('z');
        all.guess('y');
        CHECK.due("guesses()", all.guesses(), 21);
        CHECK.due("guessAt(20)", all.guessAt(20), 'y');
        CHECK.due("status()", all.status(), 2);
        CHECK.due("lives()", all.lives(), 1);
    }
}
