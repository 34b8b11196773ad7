/** The sentences of promises 9 to 20: the game. */
public final class SentencesOfGameTest {
    private static final int NO_SUCH = DodgingHangman.NO_SUCH;
    private static final int BAD_VALUE = DodgingHangman.BAD_VALUE;
    private static final int NOT_POSSIBLE = DodgingHangman.NOT_POSSIBLE;
    private static final int BAD_TEXT = DodgingHangman.BAD_TEXT;
    private static final int NONE = DodgingHangman.NONE;

    public static void main(String[] args) {
        Sentences s = Sentences.tested("SentencesOfGameTest");
        tell(s);
        s.end();
    }

    static void tell(Sentences s) {
        setPolicy(s);
        start(s);
        startRefused(s);
        guess(s);
        guessRefused(s);
        guessWord(s);
        guessWordRefused(s);
        giveUp(s);
        statusAndLives(s);
        shown(s);
        candidates(s);
        guesses(s);
    }

    private static void setPolicy(Sentences s) {
        s.under("Promise 9: setPolicy");
        s.test("Changes the policy", () -> {
            // The families of "a": mask 1 of three words, mask 0 of one, mask 2 with the most fresh letters.
            int[] best = {1, 0, 2};
            for (int policy = 0; policy <= 2; policy++) {
                DodgingHangman x = Check.withWords("abb,abc,acb,bbb,eaf,gah");
                x.setPolicy(policy);
                x.start(3, 5);
                s.due("family(a, 0, 1) by policy " + policy, x.family('a', 0, 1), best[policy]);
                x.start(3, 5);
                x.guess('a');
                s.due("shown(0) by policy " + policy, x.shown(0), policy == 0 ? 'a' : NONE);
                s.due("shown(1) by policy " + policy, x.shown(1), policy == 2 ? 'a' : NONE);
            }
            s.same("the game after setPolicy(1)", Portrait.ofGame(Scene.RUNNING.steps().then(x -> x.setPolicy(1))),
                    Portrait.ofGame(Scene.RUNNING.steps()));
        });
        s.test("Undoable", () -> {
            s.undone("setPolicy(0)", x -> x.setPolicy(0), Scene.ALL);
            s.undone("setPolicy(1)", x -> x.setPolicy(1), Scene.ALL);
            s.undone("setPolicy(2)", x -> x.setPolicy(2), Scene.ALL);
            DodgingHangman x = new DodgingHangman();
            x.setPolicy(0);
            s.due("undo() of setPolicy(0), which changed nothing", x.undo(), 0);
        });
        s.test("0 to 2", () -> {
            for (int policy = 0; policy <= 2; policy++) {
                s.due("setPolicy(" + policy + ")", new DodgingHangman().setPolicy(policy), 0);
            }
        });
        s.test("Returns the previous policy", () -> {
            DodgingHangman x = new DodgingHangman();
            for (int before = 0; before <= 2; before++) {
                for (int policy = 0; policy <= 2; policy++) {
                    x.setPolicy(before);
                    s.due("setPolicy(" + policy + ")", x.setPolicy(policy), before);
                }
            }
            x.setPolicy(9);
            s.due("setPolicy(0) after one that was refused", x.setPolicy(0), 2);
        });
        s.test("BAD_VALUE if policy is out of range", () -> {
            s.changesNothing("setPolicy(-1)", x -> x.setPolicy(-1), BAD_VALUE, Scene.ALL);
            s.changesNothing("setPolicy(3)", x -> x.setPolicy(3), BAD_VALUE, Scene.ALL);
            for (int policy : Sentences.FAR) {
                s.changesNothing("setPolicy(" + policy + ")", x -> x.setPolicy(policy), BAD_VALUE, Scene.RUNNING);
            }
        });
    }

    private static void start(Sentences s) {
        s.under("Promise 10: start");
        s.names("Starts a game");
        s.test("a game that is running is given up without being lost", () -> {
            DodgingHangman x = Scene.RUNNING.steps().made();
            s.due("start(3, 20)", x.start(3, 20), 6);
            s.due("status()", x.status(), 1);
            s.due("lives()", x.lives(), 20);
            s.due("total(0)", x.total(0), 2);
            s.due("total(1)", x.total(1), 0);
            s.due("total(2)", x.total(2), 0);
            s.due("total(5), as it is no miss", x.total(5), Scene.RUNNING.steps().made().total(5));
            s.due("clearText(), as the text stays", x.clearText(), 2);
        });
        s.test("Undoable", () -> {
            s.undone("start(2, 1)", x -> x.start(2, 1), Scene.NO_GAME, Scene.RUNNING, Scene.WON, Scene.LOST,
                    Scene.GIVEN_UP, Scene.FULL_LIST);
            s.undone("start(3, 20)", x -> x.start(3, 20), Scene.NO_GAME, Scene.RUNNING, Scene.WON, Scene.LOST);
        });
        s.test("2 to 8", () -> {
            DodgingHangman x = Check.withWords("ab,abc,abcd,abcde,abcdef,abcdefg,abcdefgh");
            for (int length = 2; length <= 8; length++) {
                s.due("start(" + length + ", 1)", x.start(length, 1), 1);
                s.due("candidate(0)", x.candidate(0), length - 2);
                s.due("shown(the last)", x.shown(length - 1), NONE);
                s.due("shown(one more)", x.shown(length), NO_SUCH);
            }
        });
        s.test("1 to 20", () -> {
            DodgingHangman x = Check.withWords("ab,cd");
            for (int lives = 1; lives <= 20; lives++) {
                s.due("start(2, " + lives + ")", x.start(2, lives), 2);
                s.due("lives()", x.lives(), lives);
                s.due("total(0)", x.total(0), lives);
            }
            for (int letter = 'e'; letter < 'e' + 19; letter++) {
                x.guess(letter);
            }
            s.due("lives() after 19 misses", x.lives(), 1);
            s.due("status()", x.status(), 1);
            x.guess('x');
            s.due("status() after 20 misses", x.status(), 3);
        });
        s.test("Returns the number of candidates", () -> {
            s.due("start(2, 1), 29 of 30 words", Scene.FULL_LIST.steps().made().start(2, 1), 29);
            s.due("start(8, 1), the last of 30 words", Scene.FULL_LIST.steps().made().start(8, 1), 1);
            s.due("start(3, 1), not all are candidates of the game before", Scene.WON.steps().made().start(3, 1), 6);
            DodgingHangman x = Check.withWords("aa,ab,ac,ad,ae,af,ag,ah,ai,aj,ak,al,am,an,ao");
            Check.add(x, "ba,bb,bc,bd,be,bf,bg,bh,bi,bj,bk,bl,bm,bn,bo");
            s.due("start(2, 1), all 30 words", x.start(2, 1), 30);
            s.due("candidate(29)", x.candidate(29), 29);
        });
    }

    private static void startRefused(Sentences s) {
        s.test("BAD_VALUE if length or lives is out of range", () -> {
            s.changesNothing("start(1, 1)", x -> x.start(1, 1), BAD_VALUE, Scene.ALL);
            s.changesNothing("start(9, 1)", x -> x.start(9, 1), BAD_VALUE, Scene.ALL);
            s.changesNothing("start(2, 0)", x -> x.start(2, 0), BAD_VALUE, Scene.ALL);
            s.changesNothing("start(2, 21)", x -> x.start(2, 21), BAD_VALUE, Scene.ALL);
            s.changesNothing("start(0, 1)", x -> x.start(0, 1), BAD_VALUE, Scene.RUNNING);
            s.changesNothing("start(-2, -1)", x -> x.start(-2, -1), BAD_VALUE, Scene.RUNNING);
            for (int far : Sentences.FAR) {
                s.changesNothing("start(" + far + ", 1)", x -> x.start(far, 1), BAD_VALUE, Scene.RUNNING);
                s.changesNothing("start(2, " + far + ")", x -> x.start(2, far), BAD_VALUE, Scene.WON);
            }
        });
        s.test("NOT_POSSIBLE if no word has this length", () -> {
            for (int length = 2; length <= 8; length++) {
                int asked = length;
                s.changesNothing("start(" + length + ", 1), empty list", x -> x.start(asked, 1), NOT_POSSIBLE, Scene.NEW);
            }
            s.changesNothing("start(4, 20)", x -> x.start(4, 20), NOT_POSSIBLE, Scene.NO_GAME, Scene.RUNNING, Scene.WON,
                    Scene.LOST, Scene.GIVEN_UP);
            s.changesNothing("start(8, 1)", x -> x.start(8, 1), NOT_POSSIBLE, Scene.NO_GAME, Scene.RUNNING);
            s.changesNothing("start(7, 1)", x -> x.start(7, 1), NOT_POSSIBLE, Scene.FULL_LIST);
            Scene removed = Scene.FULL_LIST.and("without zyxwvuts", x -> x.removeWord(29));
            s.changesNothing("start(8, 1)", x -> x.start(8, 1), NOT_POSSIBLE, removed);
        });
    }

    private static void guess(Sentences s) {
        s.under("Promise 11: guess");
        s.names("Guesses a letter");
        s.test("Undoable", () -> {
            s.undone("guess(c), which is a dodge", x -> x.guess('c'), Scene.RUNNING);
            s.undone("guess(z), which no candidate has", x -> x.guess('z'), Scene.RUNNING);
            s.undone("guess(a), which is shown", x -> x.guess('a'), Scene.RUNNING);
            s.undone("guess(d), which wins", x -> x.guess('d'), Scene.RUNNING.and("one place hidden", x -> {
                x.guess('a');
                x.guess('c');
            }));
            s.undone("guess(w), which loses", x -> x.guess('w'), Scene.RUNNING.and("one life", x -> {
                x.guess('y');
                x.guess('x');
            }));
        });
        s.test("97 to 122", () -> {
            for (int letter = 97; letter <= 122; letter++) {
                DodgingHangman x = Check.withWords("" + (char) letter + (char) letter);
                x.start(2, 1);
                s.due("guess(" + letter + ")", x.guess(letter), 2);
                s.due("shown(0)", x.shown(0), letter);
                s.due("guessAt(0)", x.guessAt(0), letter);
            }
        });
        s.test("Returns the number of places that are shown by it", () -> {
            DodgingHangman x = Check.withWords("abacabad,zzzzzzzz");
            x.start(8, 2);
            s.due("guess(y), of no place", x.guess('y'), 0);
            DodgingHangman y = Check.withWords("abacabad");
            y.start(8, 2);
            s.due("guess(a)", y.guess('a'), 4);
            s.due("guess(b), not the places that were shown before", y.guess('b'), 2);
            s.due("guess(c)", y.guess('c'), 1);
            s.due("guess(e)", y.guess('e'), 0);
            s.due("guess(d), which wins", y.guess('d'), 1);
            DodgingHangman all = Check.withWords("zzzzzzzz");
            all.start(8, 1);
            s.due("guess(z), all eight places", all.guess('z'), 8);
            DodgingHangman dodge = Check.withWords("ab,cd");
            dodge.start(2, 1);
            s.due("guess(c), which is dodged with the last life", dodge.guess('c'), 0);
        });
    }

    private static void guessRefused(Sentences s) {
        s.test("BAD_VALUE if letter is out of range", () -> {
            s.changesNothing("guess(96)", x -> x.guess(96), BAD_VALUE, Scene.ALL);
            s.changesNothing("guess(123)", x -> x.guess(123), BAD_VALUE, Scene.ALL);
            for (int letter : new int[] {0, -1, 1, 25, 65, 90, 97 + 32, 97 - 32, 97 + 256, 97 + 65536}) {
                s.changesNothing("guess(" + letter + ")", x -> x.guess(letter), BAD_VALUE, Scene.RUNNING);
            }
            for (int letter : Sentences.FAR) {
                s.changesNothing("guess(" + letter + ")", x -> x.guess(letter), BAD_VALUE, Scene.RUNNING, Scene.LOST);
            }
        });
        s.test("NOT_POSSIBLE if no game is running", () -> {
            s.changesNothing("guess(97)", x -> x.guess(97), NOT_POSSIBLE, Scene.NOT_RUNNING);
            s.changesNothing("guess(122)", x -> x.guess(122), NOT_POSSIBLE, Scene.NOT_RUNNING);
            Scene removed = Scene.WON.and("a word is removed", x -> x.removeWord(0));
            s.changesNothing("guess(97)", x -> x.guess(97), NOT_POSSIBLE, removed);
        });
        s.test("NONE if the letter was guessed already", () -> {
            s.changesNothing("guess(q), a miss", x -> x.guess('q'), NONE, Scene.RUNNING);
            s.changesNothing("guess(e), a dodge", x -> x.guess('e'), NONE, Scene.RUNNING);
            s.changesNothing("guess(b), which is shown", x -> x.guess('b'), NONE, Scene.RUNNING);
            Scene ends = Scene.RUNNING.and("first and last letter guessed", x -> {
                x.guess('a');
                x.guess('z');
            });
            s.changesNothing("guess(97)", x -> x.guess(97), NONE, ends);
            s.changesNothing("guess(122)", x -> x.guess(122), NONE, ends);
            DodgingHangman x = Scene.RUNNING.steps().made();
            x.start(3, 5);
            s.due("guess(q), which was guessed in the game before", x.guess('q'), 0);
            s.due("guess(q) again", x.guess('q'), NONE);
            x.undo();
            s.due("guess(q), whose guess is undone", x.guess('q'), 0);
        });
    }

    private static void guessWord(Sentences s) {
        s.under("Promise 12: guessWord");
        s.test("Guesses the word in the text, and makes the text empty", () -> {
            for (String word : new String[] {"abc", "abd", "zzz", "eel"}) {
                DodgingHangman x = Scene.RUNNING.withText(word).steps().made();
                s.due("guessWord() of " + word, x.guessWord(), 0);
                s.due("clearText()", x.clearText(), 0);
                s.due("total(4)", x.total(4), 2);
                s.due("total(3), as no letter was guessed", x.total(3), 3);
                s.same("guessed letters", Check.guessed(x), "qeb");
            }
            DodgingHangman x = Check.withWords("abcdefgh");
            x.start(8, 1);
            s.due("guessWord() of the winning word", Check.guessWord(x, "abcdefgh"), 1);
            s.due("clearText() after the game was won", x.clearText(), 0);
            s.due("total(4)", x.total(4), 1);
            x.start(8, 1);
            Check.guessWord(x, "abcdefgi");
            s.due("clearText() after the game was lost", x.clearText(), 0);
        });
        s.test("Undoable", () -> {
            s.undone("guessWord(), a candidate", x -> x.guessWord(), Scene.RUNNING.withText("abc"));
            s.undone("guessWord(), no word of the list", x -> x.guessWord(), Scene.RUNNING.withText("zzz"));
            Scene won = Scene.RUNNING.and("one candidate", x -> x.guess('c')).withText("abd");
            s.undone("guessWord(), which wins", x -> x.guessWord(), won);
            s.undone("guessWord(), which loses", x -> x.guessWord(), Scene.RUNNING.and("one life", x -> {
                x.guess('y');
                x.guess('x');
            }).withText("abc"));
        });
        s.test("Returns 1 if the game is won, otherwise 0", () -> {
            DodgingHangman x = Check.withWords("ab,cd");
            x.start(2, 5);
            s.due("guessWord() of one of two candidates", Check.guessWord(x, "ab"), 0);
            s.due("guessWord() of no candidate", Check.guessWord(x, "ab"), 0);
            s.due("guessWord() of the only candidate", Check.guessWord(x, "cd"), 1);
            DodgingHangman y = Check.withWords("ab,cd");
            y.start(2, 1);
            s.due("guessWord() that loses", Check.guessWord(y, "ab"), 0);
        });
    }

    private static void guessWordRefused(Sentences s) {
        s.test("BAD_TEXT if the text is not a single word of 2 to 8 letters", () -> {
            for (String bad : new String[] {"", "a", "abcdefghi", "abc,abd", "abc,", ",abc", ",", "ab!", "Abc", "abc,abd,",
                "ab{", "`bc", "a".repeat(80), "abc,".repeat(20)}) {
                s.changesNothing("guessWord()", x -> x.guessWord(), BAD_TEXT,
                        Scene.withText(bad, Scene.NEW, Scene.RUNNING, Scene.WON));
            }
            s.changesNothing("guessWord(), the same word twice", x -> x.guessWord(), BAD_TEXT,
                    Scene.withText("abc,abc", Scene.ALL));
            DodgingHangman x = Scene.RUNNING.withText("ab").steps().made();
            x.type(33);
            x.guessWord();
            s.due("clearText(), as the text stays", x.clearText(), 3);
        });
        s.test("NOT_POSSIBLE if no game is running, or if the word does not have the length of the game", () -> {
            s.changesNothing("guessWord(), no game is running", x -> x.guessWord(), NOT_POSSIBLE,
                    Scene.withText("abc", Scene.NOT_RUNNING));
            for (String word : new String[] {"ab", "zz", "abcd", "abcdefgh"}) {
                s.changesNothing("guessWord(), a game of length 3", x -> x.guessWord(), NOT_POSSIBLE,
                        Scene.RUNNING.withText(word));
            }
            Scene two = Scene.FULL_LIST.and("a game of length 2", x -> x.start(2, 1));
            s.changesNothing("guessWord()", x -> x.guessWord(), NOT_POSSIBLE, two.withText("abc"));
            Scene eight = Scene.FULL_LIST.and("a game of length 8", x -> x.start(8, 1));
            s.changesNothing("guessWord()", x -> x.guessWord(), NOT_POSSIBLE, eight.withText("abcdefg"));
            DodgingHangman x = two.withText("a").steps().made();
            x.type('b');
            x.type('c');
            x.guessWord();
            s.due("clearText(), as the text stays", x.clearText(), 3);
        });
    }

    private static void giveUp(Sentences s) {
        s.under("Promise 13: giveUp");
        s.test("Gives up: the game is lost", () -> {
            DodgingHangman x = Scene.RUNNING.steps().made();
            x.giveUp();
            s.due("status()", x.status(), 3);
            s.due("total(2)", x.total(2), 1);
            s.due("total(0)", x.total(0), 1);
        });
        s.test("lives, places and candidates stay as they are, and this is no miss", () -> {
            DodgingHangman x = Scene.RUNNING.steps().made();
            x.giveUp();
            s.due("lives()", x.lives(), 3);
            s.same("pattern", Check.pattern(x), ".b.");
            s.same("candidates", Check.candidates(x), "abc,abd");
            s.same("guessed letters", Check.guessed(x), "qeb");
            s.due("total(5)", x.total(5), 3);
            s.due("total(6)", x.total(6), 1);
            s.due("clearText(), as the text stays", x.clearText(), 2);
            DodgingHangman y = Check.withWords("ab");
            y.start(2, 1);
            s.due("giveUp() with one life and one candidate", y.giveUp(), 0);
            s.due("lives()", y.lives(), 1);
            s.same("pattern", Check.pattern(y), "..");
        });
        s.test("Undoable", () -> s.undone("giveUp()", x -> x.giveUp(), Scene.RUNNING,
                Scene.FULL_LIST.and("game is running", x -> x.start(2, 1))));
        s.test("Returns the number of the first candidate", () -> {
            s.due("giveUp(), candidates 1 and 2", Scene.RUNNING.steps().made().giveUp(), 1);
            s.due("giveUp(), candidate 2", Scene.RUNNING.withText("abc").and("guessed", x -> x.guessWord()).steps().made()
                    .giveUp(), 2);
            s.due("giveUp(), candidate 29", Scene.FULL_LIST.and("game", x -> x.start(8, 1)).steps().made().giveUp(), 29);
            s.due("giveUp(), candidate 0", Scene.FULL_LIST.and("game", x -> x.start(2, 1)).steps().made().giveUp(), 0);
        });
        s.test("NOT_POSSIBLE if no game is running", () ->
                s.changesNothing("giveUp()", x -> x.giveUp(), NOT_POSSIBLE, Scene.NOT_RUNNING));
    }

    private static void statusAndLives(Sentences s) {
        s.under("Promise 14: status");
        s.test("Returns 0 if there is no game, 1 if a game is running, 2 if it is won, 3 if it is lost", () -> {
            s.changesNothing("status()", x -> x.status(), 0, Scene.WITHOUT_GAME);
            s.changesNothing("status()", x -> x.status(), 1, Scene.RUNNING);
            s.changesNothing("status()", x -> x.status(), 2, Scene.WON);
            s.changesNothing("status()", x -> x.status(), 3, Scene.LOST, Scene.GIVEN_UP);
            DodgingHangman x = Check.withWords("ab");
            x.start(2, 1);
            x.guess('a');
            x.guess('b');
            s.due("status() of a game won by letters", x.status(), 2);
            x.start(2, 1);
            Check.guessWord(x, "ac");
            s.due("status() of a game lost by a word", x.status(), 3);
        });
        s.under("Promise 15: lives");
        s.test("Returns the number of lives that are left", () -> {
            s.changesNothing("lives()", x -> x.lives(), 3, Scene.RUNNING, Scene.GIVEN_UP);
            s.changesNothing("lives() after a dodge", x -> x.lives(), 2, Scene.WON);
            s.changesNothing("lives(), none left", x -> x.lives(), 0, Scene.LOST);
        });
        s.test("0 if there is no game", () -> {
            s.changesNothing("lives()", x -> x.lives(), 0, Scene.WITHOUT_GAME);
            s.due("lives() after removeWord()", Scene.WON.steps().then(x -> x.removeWord(0)).made().lives(), 0);
            s.due("lives() after addWords()", Scene.GIVEN_UP.steps().then(x -> x.addWords()).made().lives(), 0);
        });
    }

    private static void shown(Sentences s) {
        s.under("Promise 16: shown");
        s.test("Returns what the pattern tells of a place", () -> {
            s.same("pattern", Check.pattern(Scene.RUNNING.steps().made()), ".b.");
            s.same("pattern", Check.pattern(Scene.GIVEN_UP.steps().made()), ".b.");
            s.same("pattern", Check.pattern(Scene.WON.steps().made()), "abd");
        });
        s.test("0 to the length of the game minus 1", () -> {
            DodgingHangman x = Check.withWords("ab,abc,abcd,abcde,abcdef,abcdefg,abcdefgh");
            for (int length = 2; length <= 8; length++) {
                x.start(length, 1);
                for (int place = 0; place < length; place++) {
                    s.due("shown(" + place + ") of " + length, x.shown(place), NONE);
                }
                for (int place = length; place <= 9; place++) {
                    s.due("shown(" + place + ") of " + length, x.shown(place), NO_SUCH);
                }
            }
        });
        s.test("Returns the letter", () -> {
            s.changesNothing("shown(1)", x -> x.shown(1), 'b', Scene.RUNNING, Scene.WON, Scene.LOST, Scene.GIVEN_UP);
            DodgingHangman x = Check.withWords("azbycxdw");
            x.start(8, 1);
            for (int place = 7; place >= 0; place--) {
                x.guess("azbycxdw".charAt(place));
                s.due("shown(" + place + ")", x.shown(place), "azbycxdw".charAt(place));
            }
        });
        s.test("NO_SUCH if there is no game or no such place", () -> {
            s.changesNothing("shown(0)", x -> x.shown(0), NO_SUCH, Scene.WITHOUT_GAME);
            s.changesNothing("shown(3)", x -> x.shown(3), NO_SUCH, Scene.ALL);
            s.changesNothing("shown(-1)", x -> x.shown(-1), NO_SUCH, Scene.ALL);
            s.changesNothing("shown(8)", x -> x.shown(8), NO_SUCH, Scene.FULL_LIST.and("game", x -> x.start(8, 1)));
            s.changesNothing("shown(0) after removeWord()", x -> x.shown(0), NO_SUCH,
                    Scene.WON.and("a word is removed", x -> x.removeWord(0)));
            for (int place : Sentences.FAR) {
                s.changesNothing("shown(" + place + ")", x -> x.shown(place), NO_SUCH, Scene.RUNNING, Scene.WON);
            }
        });
        s.test("NONE if the place is hidden", () -> {
            s.changesNothing("shown(0)", x -> x.shown(0), NONE, Scene.RUNNING, Scene.LOST, Scene.GIVEN_UP);
            s.changesNothing("shown(2)", x -> x.shown(2), NONE, Scene.RUNNING, Scene.LOST, Scene.GIVEN_UP);
            s.changesNothing("shown(7)", x -> x.shown(7), NONE, Scene.FULL_LIST.and("game", x -> x.start(8, 1)));
        });
    }

    private static void candidates(Sentences s) {
        s.under("Promise 17: candidates");
        s.test("Returns the number of candidates", () -> {
            s.changesNothing("candidates()", x -> x.candidates(), 2, Scene.RUNNING, Scene.LOST, Scene.GIVEN_UP);
            s.changesNothing("candidates()", x -> x.candidates(), 1, Scene.WON);
            s.due("candidates(), the most", Scene.FULL_LIST.steps().then(x -> x.start(2, 1)).made().candidates(), 29);
        });
        s.test("0 if there is no game", () -> {
            s.changesNothing("candidates()", x -> x.candidates(), 0, Scene.NEW, Scene.NO_GAME, Scene.FULL_LIST);
            s.due("candidates() after addWords()", Scene.WON.steps().then(x -> x.addWords()).made().candidates(), 0);
        });
        s.under("Promise 18: candidate");
        s.names("Returns a candidate");
        s.test("0 for the first candidate in the order of the list", () -> {
            s.changesNothing("candidate(0)", x -> x.candidate(0), 1, Scene.RUNNING, Scene.LOST, Scene.GIVEN_UP);
            s.changesNothing("candidate(0)", x -> x.candidate(0), 2, Scene.WON);
        });
        s.test("Returns the number of the word", () -> {
            DodgingHangman x = Scene.FULL_LIST.steps().made();
            x.removeWord(0);
            Check.add(x, "mmm");
            x.start(2, 1);
            for (int index = 0; index < 28; index++) {
                s.due("candidate(" + index + ")", x.candidate(index), index);
            }
            x.start(8, 1);
            s.due("candidate(0), the last of 30 words", x.candidate(0), 29);
            x.start(3, 1);
            s.due("candidate(0)", x.candidate(0), 28);
            s.same("the word", Check.wordAt(x, 28), "mmm");
        });
        s.test("NO_SUCH if there is no such candidate", () -> {
            s.changesNothing("candidate(0), no game", x -> x.candidate(0), NO_SUCH, Scene.WITHOUT_GAME);
            s.changesNothing("candidate(-1)", x -> x.candidate(-1), NO_SUCH, Scene.ALL);
            s.changesNothing("candidate(2), of two or one", x -> x.candidate(2), NO_SUCH, Scene.ALL);
            s.changesNothing("candidate(1), of one", x -> x.candidate(1), NO_SUCH, Scene.WON);
            Scene most = Scene.FULL_LIST.and("game", x -> x.start(2, 1));
            s.changesNothing("candidate(29), of 29", x -> x.candidate(29), NO_SUCH, most);
            s.changesNothing("candidate(30)", x -> x.candidate(30), NO_SUCH, most);
            s.changesNothing("candidate(32)", x -> x.candidate(32), NO_SUCH, most);
            for (int index : Sentences.FAR) {
                s.changesNothing("candidate(" + index + ")", x -> x.candidate(index), NO_SUCH, Scene.RUNNING, Scene.WON);
            }
        });
    }

    private static void guesses(Sentences s) {
        s.under("Promise 19: guesses");
        s.test("Returns the number of letters that were guessed", () -> {
            s.changesNothing("guesses()", x -> x.guesses(), 3, Scene.RUNNING, Scene.GIVEN_UP, Scene.WON);
            s.changesNothing("guesses()", x -> x.guesses(), 6, Scene.LOST);
            DodgingHangman x = Check.withWords("ab");
            x.start(2, 1);
            s.due("guesses() of a game that has just started", x.guesses(), 0);
        });
        s.test("0 if there is no game", () -> {
            s.changesNothing("guesses()", x -> x.guesses(), 0, Scene.WITHOUT_GAME);
            s.due("guesses() after removeWord()", Scene.LOST.steps().then(x -> x.removeWord(0)).made().guesses(), 0);
        });
        s.under("Promise 20: guessAt");
        s.names("Returns a letter that was guessed");
        s.test("0 for the first one", () -> s.changesNothing("guessAt(0)", x -> x.guessAt(0), 'q', Scene.RUNNING, Scene.WON,
                Scene.LOST, Scene.GIVEN_UP));
        s.test("Returns the letter", () -> {
            s.changesNothing("guessAt(2)", x -> x.guessAt(2), 'b', Scene.RUNNING, Scene.WON, Scene.LOST);
            // All 26 letters can be guessed in one game: 18 misses, and then the word's own ones.
            DodgingHangman x = Check.withWords("bcdefghz");
            x.start(8, 20);
            String order = "yxwvutsrqponmlkjiabcdefghz";
            for (int i = 0; i < 26; i++) {
                x.guess(order.charAt(i));
            }
            s.due("status() after all letters", x.status(), 2);
            s.due("lives()", x.lives(), 2);
            s.due("guesses()", x.guesses(), 26);
            s.same("guessed letters", Check.guessed(x), order);
            s.due("guessAt(25)", x.guessAt(25), 'z');
            s.due("guessAt(26)", x.guessAt(26), NO_SUCH);
        });
        s.test("NO_SUCH if there is no such guess", () -> {
            s.changesNothing("guessAt(0), no game", x -> x.guessAt(0), NO_SUCH, Scene.WITHOUT_GAME);
            s.changesNothing("guessAt(0), no guess", x -> x.guessAt(0), NO_SUCH,
                    Scene.RUNNING.and("the next game", x -> x.start(3, 1)));
            s.changesNothing("guessAt(-1)", x -> x.guessAt(-1), NO_SUCH, Scene.ALL);
            s.changesNothing("guessAt(3)", x -> x.guessAt(3), NO_SUCH, Scene.RUNNING, Scene.WON, Scene.GIVEN_UP);
            s.changesNothing("guessAt(26)", x -> x.guessAt(26), NO_SUCH, Scene.ALL);
            s.changesNothing("guessAt(0) after addWords()", x -> x.guessAt(0), NO_SUCH,
                    Scene.WON.and("a word is added", x -> x.addWords()));
            s.changesNothing("guessAt(2), which is undone", x -> x.guessAt(2), NO_SUCH,
                    Scene.RUNNING.and("two calls undone", x -> {
                        x.undo();
                        x.undo();
                    }));
            for (int index : Sentences.FAR) {
                s.changesNothing("guessAt(" + index + ")", x -> x.guessAt(index), NO_SUCH, Scene.RUNNING, Scene.WON);
            }
        });
    }
}
