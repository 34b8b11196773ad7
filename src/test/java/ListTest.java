/** Promises 5 to 8: the list of words. */
public final class ListTest {
    private static final Check CHECK = new Check("ListTest");

    public static void main(String[] args) {
        adding();
        order();
        limitOfTheList();
        addingAndGames();
        removing();
        letters();
        CHECK.end();
    }

    private static void adding() {
        CHECK.promise(5, "addWords");
        DodgingHangman x = new DodgingHangman();
        CHECK.due("addWords() of the empty text", x.addWords(), DodgingHangman.BAD_TEXT);
        CHECK.due("words added", Check.add(x, "cab,ab,cab"), 2);
        CHECK.due("clearText() after addWords()", x.clearText(), 0);
        CHECK.due("words()", x.words(), 2);
        CHECK.due("words added that are there", Check.add(x, "ab,cab"), 0);
        CHECK.due("clearText() after no word was added", x.clearText(), 0);
        CHECK.due("words added, one of two", Check.add(x, "ab,zz"), 1);
        CHECK.holds("the list is ab,cab,zz", Check.list(x).equals("ab,cab,zz"));
        CHECK.due("words added of a bad text", Check.add(x, "de,f"), DodgingHangman.BAD_TEXT);
        CHECK.due("clearText(), as a bad text stays", x.clearText(), 4);
        CHECK.due("words() after a bad text", x.words(), 3);
    }

    private static void order() {
        CHECK.promise(7, "words, in their order");
        DodgingHangman x = Check.withWords("zz,za,az,aa,abc,ab,abcdefgh,abcdefg,b");
        CHECK.due("words() after a bad text", x.words(), 0);
        x.clearText();
        Check.add(x, "zz,za,az,aa,abc,ab,abcdefgh,abcdefg,abd,zzzzzzzz");
        CHECK.holds("sorted: " + Check.list(x),
                Check.list(x).equals("aa,ab,abc,abcdefg,abcdefgh,abd,az,za,zz,zzzzzzzz"));
        CHECK.due("words()", x.words(), 10);
    }

    private static void limitOfTheList() {
        CHECK.promise(5, "addWords: the limit");
        DodgingHangman x = Check.withWords(twoLetterWords('a', 26));
        CHECK.due("words()", x.words(), 26);
        CHECK.due("five more", Check.add(x, "ba,bb,bc,bd,be"), DodgingHangman.LIMIT);
        CHECK.due("words(), as none is added", x.words(), 26);
        CHECK.due("clearText(), as the text stays", x.clearText(), 14);
        CHECK.due("four more, and one that is there", Check.add(x, "bd,bc,aa,bb,ba,bd"), 4);
        CHECK.due("words()", x.words(), 30);
        CHECK.due("none more", Check.add(x, "ba,aa"), 0);
        CHECK.due("one more", Check.add(x, "abcdefgh"), DodgingHangman.LIMIT);
        CHECK.due("addWords() again", x.addWords(), DodgingHangman.LIMIT);
        CHECK.holds("the last word is bd", Check.wordAt(x, 29).equals("bd"));
        CHECK.due("removeWord(29)", x.removeWord(29), 29);
        CHECK.due("addWords() with room", x.addWords(), 1);
        CHECK.holds("abcdefgh stands between ab and ac", Check.wordAt(x, 2).equals("abcdefgh"));
        CHECK.due("words()", x.words(), 30);

        DodgingHangman y = Check.withWords(twoLetterWords('c', 26) + ",dd");
        CHECK.due("words() of a text with the most words", y.words(), 27);
    }

    private static String twoLetterWords(char first, int number) {
        StringBuilder all = new StringBuilder();
        for (int i = number - 1; i >= 0; i--) {
            all.append(first).append((char) ('a' + i)).append(i == 0 ? "" : ",");
        }
        return all.toString();
    }

    private static void addingAndGames() {
        CHECK.promise(5, "addWords: games");
        DodgingHangman x = Check.withWords("ab,cd");
        x.start(2, 1);
        CHECK.due("addWords() of a bad text while a game is running", x.addWords(), DodgingHangman.BAD_TEXT);
        CHECK.due("words added while a game is running", Check.add(x, "ef"), DodgingHangman.NOT_POSSIBLE);
        CHECK.due("clearText(), as the text stays", x.clearText(), 2);
        CHECK.due("status()", x.status(), 1);
        x.giveUp();
        CHECK.due("words added after the game", Check.add(x, "ab"), 0);
        CHECK.due("status()", x.status(), 0);
        CHECK.due("lives()", x.lives(), 0);
        CHECK.due("candidates()", x.candidates(), 0);
        CHECK.due("candidate(0)", x.candidate(0), DodgingHangman.NO_SUCH);
        CHECK.due("shown(0)", x.shown(0), DodgingHangman.NO_SUCH);
        CHECK.due("having(97)", x.having(97), DodgingHangman.NOT_POSSIBLE);

        DodgingHangman full = Check.withWords(twoLetterWords('a', 26));
        Check.add(full, "ba,bb,bc,bd");
        full.start(2, 1);
        CHECK.due("too many words while a game is running", Check.add(full, "zz"), DodgingHangman.NOT_POSSIBLE);
        full.giveUp();
        CHECK.due("too many words after a game", full.addWords(), DodgingHangman.LIMIT);
        CHECK.due("status(), as LIMIT changes nothing", full.status(), 3);
    }

    private static void removing() {
        CHECK.promise(6, "removeWord");
        DodgingHangman x = new DodgingHangman();
        CHECK.due("removeWord(0) of the empty list", x.removeWord(0), DodgingHangman.NO_SUCH);
        Check.add(x, "ab,cd,efg,hi");
        CHECK.due("removeWord(4)", x.removeWord(4), DodgingHangman.NO_SUCH);
        CHECK.due("removeWord(-1)", x.removeWord(-1), DodgingHangman.NO_SUCH);
        CHECK.due("removeWord(MAX)", x.removeWord(Integer.MAX_VALUE), DodgingHangman.NO_SUCH);
        CHECK.due("removeWord(MIN)", x.removeWord(Integer.MIN_VALUE), DodgingHangman.NO_SUCH);
        x.start(2, 1);
        CHECK.due("removeWord(4) while a game is running", x.removeWord(4), DodgingHangman.NO_SUCH);
        CHECK.due("removeWord(1) while a game is running", x.removeWord(1), DodgingHangman.NOT_POSSIBLE);
        Check.guessWord(x, "zz");
        CHECK.due("status()", x.status(), 3);
        CHECK.due("removeWord(4) after the game", x.removeWord(4), DodgingHangman.NO_SUCH);
        CHECK.due("status(), as NO_SUCH changes nothing", x.status(), 3);
        CHECK.due("removeWord(1)", x.removeWord(1), 3);
        CHECK.due("status()", x.status(), 0);
        CHECK.due("guesses()", x.guesses(), 0);
        CHECK.holds("cd is gone", Check.list(x).equals("ab,efg,hi"));
        CHECK.due("removeWord(2), the last one", x.removeWord(2), 2);
        CHECK.due("removeWord(0), the first one", x.removeWord(0), 1);
        CHECK.holds("efg is left", Check.list(x).equals("efg"));
        CHECK.due("removeWord(0)", x.removeWord(0), 0);
        CHECK.due("removeWord(0) again", x.removeWord(0), DodgingHangman.NO_SUCH);
    }

    private static void letters() {
        CHECK.promise(8, "letterOf");
        DodgingHangman x = new DodgingHangman();
        CHECK.due("letterOf(0, 0) of the empty list", x.letterOf(0, 0), DodgingHangman.NO_SUCH);
        Check.add(x, "az,hgfedcba");
        CHECK.due("letterOf(0, 0)", x.letterOf(0, 0), 'a');
        CHECK.due("letterOf(0, 1)", x.letterOf(0, 1), 'z');
        CHECK.due("letterOf(0, 2)", x.letterOf(0, 2), DodgingHangman.NO_SUCH);
        CHECK.due("letterOf(0, -1)", x.letterOf(0, -1), DodgingHangman.NO_SUCH);
        CHECK.due("letterOf(1, 0)", x.letterOf(1, 0), 'h');
        CHECK.due("letterOf(1, 7)", x.letterOf(1, 7), 'a');
        CHECK.due("letterOf(1, 8)", x.letterOf(1, 8), DodgingHangman.NO_SUCH);
        CHECK.due("letterOf(2, 0)", x.letterOf(2, 0), DodgingHangman.NO_SUCH);
        CHECK.due("letterOf(-1, 0)", x.letterOf(-1, 0), DodgingHangman.NO_SUCH);
        CHECK.due("letterOf(MAX, MAX)", x.letterOf(Integer.MAX_VALUE, Integer.MAX_VALUE), DodgingHangman.NO_SUCH);
        CHECK.due("letterOf(0, MIN)", x.letterOf(0, Integer.MIN_VALUE), DodgingHangman.NO_SUCH);
        x.removeWord(1);
        CHECK.due("letterOf(1, 0) of a word that was removed", x.letterOf(1, 0), DodgingHangman.NO_SUCH);
    }
}
