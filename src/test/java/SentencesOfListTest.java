/** The sentences of promises 5 to 8: the list of words. */
public final class SentencesOfListTest {
    private static final int NO_SUCH = DodgingHangman.NO_SUCH;
    private static final int NOT_POSSIBLE = DodgingHangman.NOT_POSSIBLE;
    private static final int LIMIT = DodgingHangman.LIMIT;
    private static final int BAD_TEXT = DodgingHangman.BAD_TEXT;

    public static void main(String[] args) {
        Sentences s = Sentences.tested("SentencesOfListTest");
        tell(s);
        s.end();
    }

    static void tell(Sentences s) {
        addWords(s);
        addWordsRefused(s);
        removeWord(s);
        words(s);
        letterOf(s);
    }

    private static void addWords(Sentences s) {
        s.under("Promise 5: addWords");
        s.test("Adds the words of the text to the list, except those that are there already, and makes the text empty", () -> {
            DodgingHangman x = new DodgingHangman();
            s.due("addWords() of one word", Check.add(x, "ab"), 1);
            s.due("clearText() after it", x.clearText(), 0);
            s.due("addWords() of the same word", Check.add(x, "ab"), 0);
            s.due("clearText() after no word was added", x.clearText(), 0);
            Check.add(x, "abcdefgh,ab,abc,abc");
            s.same("the list", Check.list(x), "ab,abc,abcdefgh");
            DodgingHangman most = new DodgingHangman();
            s.due("addWords() of 27 words, the most of a text", Check.add(most, twentySeven()), 27);
            s.same("the list", Check.list(most), twentySeven());
            s.due("clearText() after 80 characters", most.clearText(), 0);
            DodgingHangman long8 = new DodgingHangman();
            Check.add(long8, "zzzzzzzz,zzzzzzzy,aaaaaaaa,hgfedcba");
            s.same("the list of words of 8 letters", Check.list(long8), "aaaaaaaa,hgfedcba,zzzzzzzy,zzzzzzzz");
        });
        s.test("There is no game then", () -> {
            for (Scene scene : Scene.OVER) {
                Steps added = scene.steps().then(x -> x.addWords());
                s.same("what is told of the game, " + scene.name(), Portrait.ofGame(added),
                        Portrait.ofGame(Scene.NEW.steps()));
                // "ab" is there already.
                Steps none = scene.withText("ab").steps().then(x -> x.addWords());
                s.same("what is told after no word was added, " + scene.name(), Portrait.ofGame(none),
                        Portrait.ofGame(Scene.NEW.steps()));
                for (int what = 0; what <= 6; what++) {
                    s.due("total(" + what + "), which stays", added.made().total(what), scene.steps().made().total(what));
                }
                s.due("the policy, which stays", added.made().setPolicy(0), 2);
            }
        });
        s.test("Undoable", () -> {
            s.undone("addWords()", x -> x.addWords(), Scene.NO_GAME, Scene.WON, Scene.LOST, Scene.GIVEN_UP);
            s.undone("addWords() of a new object", x -> x.addWords(), Scene.NEW.withText("ab,cd"));
            s.undone("addWords() that adds none", x -> x.addWords(), Scene.withText("ab", Scene.OVER));
            s.undone("addWords() to a full list", x -> x.addWords(), Scene.FULL_LIST.withText("ab"));
        });
        s.test("Returns the number of words that are added", () -> {
            s.due("addWords(), each word once", Scene.NEW.withText("ab,cd,ab,ab,cd").steps().made().addWords(), 2);
            s.due("addWords(), all there", Scene.NO_GAME.withText("ab,zz,ab").steps().made().addWords(), 0);
            s.due("addWords(), some there", Scene.NO_GAME.withText("ab,aa,zz,zy,zy").steps().made().addWords(), 2);
            DodgingHangman x = Check.withWords(twentySeven());
            s.due("addWords() of three, which fill the list", Check.add(x, "ba,ba,bb,aa,bc"), 3);
            s.due("words()", x.words(), 30);
            s.due("addWords() of those in a full list", Check.add(x, "ba,bb,aa"), 0);
        });
    }

    private static String twentySeven() {
        StringBuilder all = new StringBuilder();
        for (char letter = 'a'; letter <= 'z'; letter++) {
            all.append('a').append(letter).append(',');
        }
        return all.append("zz").toString();
    }

    private static void addWordsRefused(Sentences s) {
        s.test("BAD_TEXT if the text is not a word list", () -> {
            s.changesNothing("addWords(), the empty text", x -> x.addWords(), BAD_TEXT, Scene.withText("", Scene.ALL));
            for (String bad : new String[] {"a", "ab,", ",ab", "ab,c", "abcdefghi", "ab,abcdefghi", "ab,,cd", "Ab", "xy!"}) {
                s.changesNothing("addWords()", x -> x.addWords(), BAD_TEXT,
                        Scene.withText(bad, Scene.NEW, Scene.RUNNING, Scene.WON));
            }
            s.changesNothing("addWords(), 80 characters", x -> x.addWords(), BAD_TEXT,
                    Scene.withText("abc,".repeat(20), Scene.NEW, Scene.LOST));
            Scene corrected = Scene.NEW.withText("ab,c").and("completed", x -> {
                x.addWords();
                x.type('d');
            });
            s.due("addWords() of the text that stayed", corrected.steps().made().addWords(), 2);
        });
        s.test("NOT_POSSIBLE if a game is running", () -> {
            s.changesNothing("addWords()", x -> x.addWords(), NOT_POSSIBLE, Scene.withText("xy,ab", Scene.RUNNING));
            s.changesNothing("addWords(), all words there", x -> x.addWords(), NOT_POSSIBLE, Scene.RUNNING.withText("ab"));
            Scene started = Scene.FULL_LIST.and("game is running", x -> x.start(8, 1));
            s.changesNothing("addWords()", x -> x.addWords(), NOT_POSSIBLE, Scene.withText("ab", started));
            Scene undone = Scene.NEW.and("a game that undo brought back", x -> {
                Check.add(x, "ab,cd");
                x.start(2, 1);
                x.giveUp();
                x.undo();
            });
            s.changesNothing("addWords()", x -> x.addWords(), NOT_POSSIBLE, undone.withText("xy"));
            Scene back = Scene.NEW.and("a start that is undone", x -> {
                Check.add(x, "ab,cd");
                x.start(2, 1);
                x.undo();
            });
            s.due("addWords() after undo() of start()", back.withText("xy").steps().made().addWords(), 1);
        });
        s.test("LIMIT if the list would have more than 30 words (then none is added, and the text stays)", () -> {
            s.changesNothing("addWords(), the 31st word", x -> x.addWords(), LIMIT,
                    Scene.withText("zz", Scene.FULL_LIST));
            s.changesNothing("addWords(), the 31st word ahead of all", x -> x.addWords(), LIMIT,
                    Scene.FULL_LIST.withText("zz,aaa,aa"));
            Scene almost = Scene.FULL_LIST.and("without one", x -> x.removeWord(3));
            s.changesNothing("addWords(), two words for one place", x -> x.addWords(), LIMIT, almost.withText("zy,zz"));
            s.changesNothing("addWords(), two words that surround one", x -> x.addWords(), LIMIT,
                    almost.withText("zy,ab,zz,aa"));
            s.due("addWords(), one word for one place", almost.withText("zz,ab,zz").steps().made().addWords(), 1);
            Scene over = Scene.FULL_LIST.and("game is lost", x -> {
                x.start(2, 1);
                x.guess('z');
            });
            s.changesNothing("addWords(), with a game that is over", x -> x.addWords(), LIMIT, over.withText("zz"));
            Scene twentySeven = Scene.NEW.and("27 words", x -> Check.add(x, twentySeven()));
            s.changesNothing("addWords(), four words for three places", x -> x.addWords(), LIMIT,
                    twentySeven.withText("aa,ba,bb,bc,bd"));
            s.changesNothing("addWords(), 26 words for three places", x -> x.addWords(), LIMIT,
                    twentySeven.withText(twentySeven().replace('a', 'q')));
            DodgingHangman x = almost.withText("zy,zz").steps().made();
            x.addWords();
            x.removeWord(0);
            s.due("addWords() of the text that stayed, with room", x.addWords(), 2);
            s.due("words()", x.words(), 30);
        });
    }

    private static void removeWord(Sentences s) {
        s.under("Promise 6: removeWord");
        s.test("Removes a word from the list", () -> {
            for (int number = 0; number < 30; number++) {
                DodgingHangman x = Scene.FULL_LIST.steps().made();
                String word = Check.wordAt(x, number);
                String all = "," + Check.list(x) + ",";
                s.due("removeWord(" + number + ")", x.removeWord(number), 29);
                s.same("the list", "," + Check.list(x) + ",", all.replace("," + word + ",", ","));
            }
            DodgingHangman x = Check.withWords("ab,cd");
            x.removeWord(0);
            s.due("addWords() of the word that was removed", Check.add(x, "ab"), 1);
            s.same("the list", Check.list(x), "ab,cd");
        });
        s.test("There is no game then", () -> {
            for (Scene scene : Scene.OVER) {
                // Word 7 is "zz", which was no candidate.
                for (int number : new int[] {0, 2, 7}) {
                    Steps removed = scene.steps().then(x -> x.removeWord(number));
                    s.same("what is told of the game, " + scene.name(), Portrait.ofGame(removed),
                            Portrait.ofGame(Scene.NEW.steps()));
                }
                DodgingHangman x = scene.steps().made();
                x.removeWord(0);
                s.due("total(0), which stays", x.total(0), 1);
                s.due("the policy, which stays", x.setPolicy(0), 2);
                s.due("clearText(), as the text stays", x.clearText(), 2);
            }
        });
        s.test("Undoable", () -> {
            s.undone("removeWord(0)", x -> x.removeWord(0), Scene.NO_GAME, Scene.WON, Scene.LOST, Scene.FULL_LIST);
            s.undone("removeWord(7), the last one", x -> x.removeWord(7), Scene.NO_GAME, Scene.GIVEN_UP);
            s.undone("removeWord(29), the last one", x -> x.removeWord(29), Scene.FULL_LIST);
        });
        s.names("number of the word");
        s.test("Returns the number of words that are left", () -> {
            DodgingHangman x = Scene.FULL_LIST.steps().made();
            for (int left = 29; left >= 0; left--) {
                s.due("removeWord(0)", x.removeWord(0), left);
            }
            s.due("words()", x.words(), 0);
        });
        s.test("NO_SUCH if there is no such word", () -> {
            s.changesNothing("removeWord(0), empty list", x -> x.removeWord(0), NO_SUCH, Scene.NEW);
            Scene emptied = Scene.NEW.and("the only word is removed", x -> {
                Check.add(x, "ab");
                x.removeWord(0);
            });
            s.changesNothing("removeWord(0)", x -> x.removeWord(0), NO_SUCH, emptied);
            s.changesNothing("removeWord(-1)", x -> x.removeWord(-1), NO_SUCH, Scene.ALL);
            s.changesNothing("removeWord(30)", x -> x.removeWord(30), NO_SUCH, Scene.ALL);
            s.changesNothing("removeWord(8), of 8 words", x -> x.removeWord(8), NO_SUCH,
                    Scene.NO_GAME, Scene.RUNNING, Scene.WON, Scene.LOST);
            for (int word : new int[] {31, 32, 64, -32}) {
                s.changesNothing("removeWord(" + word + ")", x -> x.removeWord(word), NO_SUCH, Scene.FULL_LIST);
            }
            for (int word : Sentences.FAR) {
                s.changesNothing("removeWord(" + word + ")", x -> x.removeWord(word), NO_SUCH, Scene.WON, Scene.RUNNING);
            }
        });
        s.test("NOT_POSSIBLE if a game is running", () -> {
            s.changesNothing("removeWord(0)", x -> x.removeWord(0), NOT_POSSIBLE, Scene.RUNNING);
            s.changesNothing("removeWord(7)", x -> x.removeWord(7), NOT_POSSIBLE, Scene.RUNNING);
        });
    }

    private static void words(Sentences s) {
        s.under("Promise 7: words");
        s.test("Returns the number of words in the list", () -> {
            s.changesNothing("words(), of none", x -> x.words(), 0, Scene.NEW);
            s.changesNothing("words()", x -> x.words(), 8, Scene.NO_GAME, Scene.RUNNING, Scene.WON, Scene.LOST);
            s.changesNothing("words(), of the most", x -> x.words(), 30, Scene.FULL_LIST);
        });
    }

    private static void letterOf(Sentences s) {
        s.under("Promise 8: letterOf");
        s.names("number of the word");
        s.test("Returns a letter of a word", () -> {
            s.changesNothing("letterOf(0, 0)", x -> x.letterOf(0, 0), 'a', Scene.NO_GAME, Scene.RUNNING, Scene.WON);
            s.changesNothing("letterOf(7, 1)", x -> x.letterOf(7, 1), 'z', Scene.NO_GAME, Scene.RUNNING, Scene.LOST);
        });
        s.test("0 for its first letter", () -> {
            DodgingHangman x = Check.withWords("za,abcdefgh");
            s.due("letterOf(0, 0)", x.letterOf(0, 0), 'a');
            s.due("letterOf(1, 0)", x.letterOf(1, 0), 'z');
        });
        s.test("Returns the letter", () -> {
            DodgingHangman x = Check.withWords("abcdefgh,ijklmnop,qrstuvwx,yz");
            for (int letter = 'a'; letter <= 'z'; letter++) {
                int at = letter - 'a';
                s.due("letterOf(" + at / 8 + ", " + at % 8 + ")", x.letterOf(at / 8, at % 8), letter);
            }
        });
        s.test("NO_SUCH if there is no such word or place", () -> {
            s.changesNothing("letterOf(0, 0), empty list", x -> x.letterOf(0, 0), NO_SUCH, Scene.NEW);
            s.changesNothing("letterOf(-1, 0)", x -> x.letterOf(-1, 0), NO_SUCH, Scene.RUNNING, Scene.FULL_LIST);
            s.changesNothing("letterOf(8, 0)", x -> x.letterOf(8, 0), NO_SUCH, Scene.NO_GAME, Scene.RUNNING);
            s.changesNothing("letterOf(30, 0)", x -> x.letterOf(30, 0), NO_SUCH, Scene.FULL_LIST);
            s.changesNothing("letterOf(0, -1)", x -> x.letterOf(0, -1), NO_SUCH, Scene.RUNNING);
            s.changesNothing("letterOf(29, 8), of 8 letters", x -> x.letterOf(29, 8), NO_SUCH, Scene.FULL_LIST);
            DodgingHangman all = Check.withWords("ab,abc,abcd,abcde,abcdef,abcdefg,abcdefgh");
            for (int number = 0; number < 7; number++) {
                s.due("letterOf(" + number + ", the last)", all.letterOf(number, number + 1), 'b' + number);
                s.due("letterOf(" + number + ", one more)", all.letterOf(number, number + 2), NO_SUCH);
            }
            for (int far : Sentences.FAR) {
                s.due("letterOf(" + far + ", 0)", all.letterOf(far, 0), NO_SUCH);
                s.due("letterOf(6, " + far + ")", all.letterOf(6, far), NO_SUCH);
                s.due("letterOf(" + far + ", " + far + ")", all.letterOf(far, far), NO_SUCH);
            }
            DodgingHangman less = Scene.FULL_LIST.steps().made();
            less.removeWord(0);
            s.due("letterOf(29, 0) after a word was removed", less.letterOf(29, 0), NO_SUCH);
            s.due("letterOf(28, 7)", less.letterOf(28, 7), 's');
        });
    }
}
