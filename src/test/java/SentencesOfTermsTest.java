/** The sentences under "Terms". */
public final class SentencesOfTermsTest {
    private static final int NO_SUCH = DodgingHangman.NO_SUCH;
    private static final int BAD_VALUE = DodgingHangman.BAD_VALUE;
    private static final int NOT_POSSIBLE = DodgingHangman.NOT_POSSIBLE;
    private static final int LIMIT = DodgingHangman.LIMIT;
    private static final int BAD_TEXT = DodgingHangman.BAD_TEXT;
    private static final int NONE = DodgingHangman.NONE;

    public static void main(String[] args) {
        Sentences s = Sentences.tested("SentencesOfTermsTest");
        tell(s);
        s.end();
    }

    static void tell(Sentences s) {
        s.under("Terms");
        numbers(s);
        words(s);
        game(s);
        gameThatIsOver(s);
        families(s);
        policies(s);
        policyAtAnyTime(s);
        guesses(s);
        dodges(s);
        wordGuesses(s);
        text(s);
        undo(s);
        errorCodes(s);
        errorsInOrder(s);
        constants(s);
    }

    private static void numbers(Sentences s) {
        s.names("All values are integers");
        s.test("Everything is numbered from 0", () -> {
            DodgingHangman x = Check.withWords("ab,cd");
            x.start(2, 1);
            s.due("letterOf(0, 0)", x.letterOf(0, 0), 'a');
            s.due("shown(0)", x.shown(0), NONE);
            s.due("candidate(0)", x.candidate(0), 0);
            s.due("family(q, 0, 0)", x.family('q', 0, 0), 2);
            x.guess('q');
            s.due("guessAt(0)", x.guessAt(0), 'q');
        });
        s.test("All divisions round down", () -> {
            DodgingHangman x = Check.withWords("ab,cd,ef");
            x.start(2, 1);
            s.due("spread(a), 1000 * 5 / 3", x.spread('a'), 1666);
            DodgingHangman y = Check.withWords("ab,ac,cd,de,ef,fg,gh");
            y.start(2, 1);
            s.due("spread(a), 1000 * 29 / 7", y.spread('a'), 4142);
        });
        s.test("Letters are \"a\" to \"z\"; they are told by their character codes, 97 to 122", () -> {
            DodgingHangman x = Check.withWords("az,za");
            s.due("letterOf(0, 0)", x.letterOf(0, 0), 97);
            s.due("letterOf(0, 1)", x.letterOf(0, 1), 122);
            x.start(2, 1);
            s.due("guess(97)", x.guess(97), 1);
            s.due("guess(122)", x.guess(122), 1);
            s.due("shown(0)", x.shown(0), 97);
            s.due("shown(1)", x.shown(1), 122);
            s.due("guessAt(1)", x.guessAt(1), 122);
        });
    }

    private static void words(Sentences s) {
        s.names("Words");
        s.test("The list has at most 30 different words of 2 to 8 letters, in alphabetical order", () -> {
            DodgingHangman x = Check.withWords("zyxwvuts,ab");
            s.same("the list", Check.list(x), "ab,zyxwvuts");
            s.due("a word of 1 letter", Check.add(x, "a"), BAD_TEXT);
            x.clearText();
            s.due("a word of 9 letters", Check.add(x, "abcdefghi"), BAD_TEXT);
            x.clearText();
            s.due("the same words", Check.add(x, "ab,zyxwvuts,ab"), 0);
            x = new DodgingHangman();
            s.due("fifteen words", Check.add(x, Scene.THIRTY[1]), 15);
            s.due("fifteen words more", Check.add(x, Scene.THIRTY[0]), 15);
            s.same("the full list", Check.list(x), Scene.THIRTY[0] + "," + Scene.THIRTY[1]);
            s.due("one word more", Check.add(x, "zz"), LIMIT);
            s.due("words()", x.words(), 30);
        });
        s.test("the word with the lower letter at the first place where two words differ comes first, and a word comes "
                + "before each longer word that begins with it", () -> {
            for (String pair : new String[] {"aa,ab", "az,ba", "ab,abc", "abc,ac", "abcdefg,abcdefgh", "abcdefgh,abcdefgi",
                "yz,zy", "abcdefgh,bb", "aaaaaaaz,aaaaaaba", "zz,zzz", "zzzzzzz,zzzzzzzz", "ay,azaaaaaa"}) {
                String[] words = pair.split(",");
                s.same("the list", Check.list(Check.withWords(pair)), pair);
                s.same("the list", Check.list(Check.withWords(words[1] + "," + words[0])), pair);
                DodgingHangman x = Check.withWords(words[1]);
                Check.add(x, words[0]);
                s.same("the list, added one after the other", Check.list(x), pair);
            }
            DodgingHangman x = Check.withWords("abcdefgh,abcdefg,abcdef,abcde,abcd,abc,ab");
            s.same("words that begin with one another", Check.list(x), "ab,abc,abcd,abcde,abcdef,abcdefg,abcdefgh");
        });
        s.test("The words are numbered in this order", () -> {
            DodgingHangman x = Check.withWords("mm,zz");
            s.same("word 0", Check.wordAt(x, 0), "mm");
            Check.add(x, "aa,nn");
            s.same("word 0 after words ahead of it", Check.wordAt(x, 0), "aa");
            s.same("word 1", Check.wordAt(x, 1), "mm");
            s.same("word 2", Check.wordAt(x, 2), "nn");
            s.same("word 3", Check.wordAt(x, 3), "zz");
            x.removeWord(1);
            s.same("word 1 after one is removed", Check.wordAt(x, 1), "nn");
            DodgingHangman full = Scene.FULL_LIST.steps().made();
            s.same("word 29", Check.wordAt(full, 29), "zyxwvuts");
            s.due("letterOf(30, 0)", full.letterOf(30, 0), NO_SUCH);
        });
    }

    private static void game(Sentences s) {
        s.names("Game");
        s.test("There is no game, or a game that is running, won or lost", () -> {
            s.due("status() of a new object", Scene.NEW.steps().made().status(), 0);
            s.due("status() with words", Scene.NO_GAME.steps().made().status(), 0);
            s.due("status() of a running game", Scene.RUNNING.steps().made().status(), 1);
            s.due("status() of a won game", Scene.WON.steps().made().status(), 2);
            s.due("status() of a lost game", Scene.LOST.steps().made().status(), 3);
            s.due("status() of a game that is given up", Scene.GIVEN_UP.steps().made().status(), 3);
        });
        s.test("A game has a length of words, a number of lives, a set of letters that were guessed, in their order, a "
                + "pattern and candidates", () -> {
            DodgingHangman x = Scene.RUNNING.steps().made();
            s.same("the pattern, of the game's length", Check.pattern(x), ".b.");
            s.due("lives()", x.lives(), 3);
            s.same("the guessed letters, in their order", Check.guessed(x), "qeb");
            s.same("the candidates", Check.candidates(x), "abc,abd");
        });
        s.test("The pattern tells for each place of the word a letter, or that the place is hidden", () -> {
            DodgingHangman x = Check.withWords("abcdefgh");
            x.start(8, 1);
            s.same("the pattern", Check.pattern(x), "........");
            x.guess('h');
            s.same("the pattern with the last place", Check.pattern(x), ".......h");
            x.guess('a');
            s.same("the pattern with the first place", Check.pattern(x), "a......h");
        });
        s.test("The candidates are words of the list", () -> {
            DodgingHangman x = Scene.FULL_LIST.steps().made();
            x.start(2, 1);
            s.due("candidates()", x.candidates(), 29);
            Check.guessWord(x, "zz");
            s.due("candidates() after a word that is not in the list", x.candidates(), 29);
            s.due("candidate(28)", x.candidate(28), 28);
        });
        s.test("When a game starts, the candidates are all words of its length, no letter is guessed, and all places "
                + "are hidden", () -> {
            for (Scene scene : new Scene[] {Scene.NO_GAME, Scene.RUNNING, Scene.WON, Scene.LOST, Scene.GIVEN_UP}) {
                DodgingHangman x = scene.steps().made();
                x.start(3, 4);
                s.same("candidates after " + scene.name(), Check.candidates(x), "abc,abd,bad,cab,dab,eel");
                s.due("guesses() after " + scene.name(), x.guesses(), 0);
                s.due("guessAt(0) after " + scene.name(), x.guessAt(0), NO_SUCH);
                s.same("pattern after " + scene.name(), Check.pattern(x), "...");
                s.due("families(q) after " + scene.name() + ", as q is not guessed", x.families('q'), 1);
                x.start(2, 4);
                s.same("candidates of the next game", Check.candidates(x), "ab,zz");
                s.same("pattern of the next game", Check.pattern(x), "..");
            }
            DodgingHangman all = Check.withWords("ab,abc,abcd,abcde,abcdef,abcdefg,abcdefgh");
            for (int length = 2; length <= 8; length++) {
                all.start(length, 1);
                s.same("candidates of length " + length, Check.candidates(all), "abcdefgh".substring(0, length));
                s.same("pattern of length " + length, Check.pattern(all), "........".substring(0, length));
            }
        });
    }

    private static void gameThatIsOver(Sentences s) {
        s.test("What is told of a game that is won or lost stays as it is until another game starts, or a call of "
                + "addWords() or removeWord() brings about that there is no game", () -> {
            Steps calls = x -> {
                x.type('a');
                x.setPolicy(1);
                x.guess('c');
                x.giveUp();
                x.guessWord();
                x.start(8, 1);
                x.start(3, 0);
                x.addWords();
                x.removeWord(8);
                x.undo();
            };
            for (Scene scene : Scene.OVER) {
                // The text is "n!" then, so that addWords() and guessWord() are refused.
                Scene bad = scene.withText("n!");
                s.same(scene.name() + ", told of the game", Portrait.ofGame(bad.steps().then(calls)),
                        Portrait.ofGame(scene.steps()));
                DodgingHangman x = scene.steps().made();
                s.due("start(2, 9) after " + scene.name(), x.start(2, 9), 2);
                s.due("status()", x.status(), 1);
                s.same("pattern", Check.pattern(x), "..");
                Steps added = scene.steps().then(y -> y.addWords());
                Steps removed = scene.steps().then(y -> y.removeWord(0));
                s.same(scene.name() + ", told after addWords()", Portrait.ofGame(added), Portrait.ofGame(y -> { }));
                s.same(scene.name() + ", told after removeWord()", Portrait.ofGame(removed), Portrait.ofGame(y -> { }));
            }
        });
    }

    private static void families(Sentences s) {
        s.names("Families");
        s.test("For a letter that is not guessed yet, the mask of a candidate is the set of places at which it has this "
                + "letter, told as a number: bit k is 1 if it has the letter at place k", () -> {
            for (int place = 0; place < 8; place++) {
                String word = "bbbbbbbb".substring(0, place) + "x" + "bbbbbbb".substring(place);
                DodgingHangman x = Check.withWords(word);
                x.start(8, 1);
                s.due("family(x, 0, 1) of " + word, x.family('x', 0, 1), 1 << place);
                s.due("family(b, 0, 1) of " + word, x.family('b', 0, 1), 255 - (1 << place));
                s.due("family(a, 0, 1) of " + word, x.family('a', 0, 1), 0);
            }
            DodgingHangman all = Check.withWords("zzzzzzzz");
            all.start(8, 1);
            s.due("family(z, 0, 1)", all.family('z', 0, 1), 255);
        });
        s.test("The candidates with the same mask are a family. The size of a family is the number of its words", () -> {
            DodgingHangman x = Check.withWords("ab,ac,ba,ca,da,cd");
            x.start(2, 1);
            s.due("families(a)", x.families('a'), 3);
            s.due("family(a, 0, 0), ba ca da", x.family('a', 0, 0), 3);
            s.due("family(a, 1, 0), ab ac", x.family('a', 1, 0), 2);
            s.due("family(a, 2, 0), cd", x.family('a', 2, 0), 1);
            DodgingHangman most = Check.withWords("aa,ab,ac,ad,ae,af,ag,ah,ai,aj,ak,al,am,an,ao");
            Check.add(most, "ba,bb,bc,bd,be,bf,bg,bh,bi,bj,bk,bl,bm,bn,bo");
            most.start(2, 1);
            s.due("families(z)", most.families('z'), 1);
            s.due("family(z, 0, 0), of all 30 words", most.family('z', 0, 0), 30);
            s.due("family(z, 0, 2)", most.family('z', 0, 2), 0);
            s.due("family(z, 0, 1)", most.family('z', 0, 1), 0);
        });
        s.test("The freshness of a family is the number of different letters that occur in at least one of its words "
                + "and are neither guessed nor the letter itself", () -> {
            DodgingHangman x = Check.withWords("aa,bb");
            x.start(2, 9);
            s.due("family(a, 0, 3) of bb", x.family('a', 0, 3), 1);
            s.due("family(a, 1, 3) of aa: the letter itself is not fresh", x.family('a', 1, 3), 0);
            s.due("family(q, 0, 3) of aa bb: each letter once", x.family('q', 0, 3), 2);
            DodgingHangman y = Check.withWords("abc,abd,aea");
            y.start(3, 9);
            s.due("family(q, 0, 3), different letters of all words", y.family('q', 0, 3), 5);
            y.guess('a');
            s.same("candidates", Check.candidates(y), "abc,abd");
            s.due("family(q, 0, 3) without the guessed a", y.family('q', 0, 3), 3);
            y.guess('b');
            s.due("family(c, 0, 3) of abd", y.family('c', 0, 3), 1);
            s.due("family(c, 1, 3) of abc: nothing is fresh", y.family('c', 1, 3), 0);
            DodgingHangman z = Check.withWords("ab,cd,ef,gh,ij,kl,mn,op,qr,st,uv,wx,yz");
            z.start(2, 9);
            s.due("family(a, 0, 3): 24 letters", z.family('a', 0, 3), 24);
            s.due("family(a, 1, 3) of ab", z.family('a', 1, 3), 1);
            s.due("family(z, 1, 3) of yz", z.family('z', 1, 3), 1);
        });
    }

    /** The masks of the families for "a", the best one first. */
    private static String ranking(int policy, String words, int length) {
        DodgingHangman x = Check.withWords(words);
        x.setPolicy(policy);
        x.start(length, 1);
        StringBuilder masks = new StringBuilder();
        for (int rank = 0; x.family('a', rank, 1) >= 0; rank++) {
            masks.append(rank == 0 ? "" : " ").append(x.family('a', rank, 1));
        }
        return masks.toString();
    }

    private static void policies(Sentences s) {
        s.names("Policies");
        s.names("The families are ranked, the best one first");
        s.test("policy 0: the greater size first", () -> {
            s.same("masks of two words and one", ranking(0, "aab,aac,bcd", 3), "3 0");
            s.same("masks of one word and two", ranking(0, "aab,bcd,bce", 3), "0 3");
            s.same("masks of three, two and one", ranking(0, "bc,ba,ca,ab,ac,ad", 2), "1 2 0");
        });
        s.test("then the mask with fewer places", () -> {
            s.same("masks of one word each: places 0, 1, 2, 3", ranking(0, "aaa,aab,bba,bbb", 3), "0 4 3 7");
            s.same("a higher mask with fewer places", ranking(0, "aabb,bbba", 4), "8 3");
            s.same("of two words each", ranking(0, "aab,aac,bba,cca", 3), "4 3");
        });
        s.test("then the lower mask", () -> {
            s.same("masks with one place", ranking(0, "bbba,bbab,babb,abbb", 4), "1 2 4 8");
            s.same("masks with two places", ranking(0, "bbaa,baba,baab,abba,abab,aabb", 4), "3 5 6 9 10 12");
        });
        s.test("policy 1: the mask 0 first, if there is a family with it", () -> {
            s.same("mask 0 with the least size", ranking(1, "ab,ac,ad,ba,bb", 2), "0 1 2");
            s.same("no family with mask 0", ranking(1, "ab,ac,ba,aa", 2), "1 2 3");
            s.same("mask 0 with the greatest size", ranking(1, "bb,bc,ab", 2), "0 1");
            s.same("mask 0 alone", ranking(1, "bb,bc", 2), "0");
        });
        s.test("all others by policy 0", () -> {
            s.same("by size", ranking(1, "bbb,aab,aac,bba", 3), "0 3 4");
            s.same("by places", ranking(1, "bbb,aab,bba", 3), "0 4 3");
            s.same("by mask", ranking(1, "bbb,bba,bab,abb", 3), "0 1 2 4");
        });
        s.test("policy 2: the greater freshness first", () -> {
            s.same("one word with three fresh letters before three with two", ranking(2, "abcd,bbcc,bcbc,cbcb", 4), "1 0");
            s.same("more places, a higher mask", ranking(2, "aabc,bbbb", 4), "3 0");
            s.same("freshness 0 last", ranking(2, "aa,ab,bb", 2), "0 1 3");
        });
        s.test("then by policy 0", () -> {
            s.same("freshness 2 each: by size", ranking(2, "bcc,abc,acb", 3), "1 0");
            s.same("freshness 1 each: by places", ranking(2, "aabb,bbba", 4), "8 3");
            s.same("freshness 1 each: by mask", ranking(2, "abbb,babb,bbab", 4), "1 2 4");
        });
        s.names("policy 1");
        s.names("policy 2");
    }

    private static void policyAtAnyTime(Sentences s) {
        s.test("The policy can be changed at any time", () -> {
            for (Scene scene : Scene.ALL) {
                DodgingHangman x = scene.steps().made();
                x.setPolicy(1);
                s.due("setPolicy(0), " + scene.name(), x.setPolicy(0), 1);
                s.due("setPolicy(2), " + scene.name(), x.setPolicy(2), 0);
            }
            // The families of "a": mask 1 of three words, mask 0 of one, mask 2 with the most fresh letters.
            DodgingHangman x = Check.withWords("abb,abc,acb,bbb,eaf,gah");
            x.start(3, 5);
            int[] best = {1, 0, 2};
            for (int policy : new int[] {0, 1, 2, 0}) {
                x.setPolicy(policy);
                s.due("family(a, 0, 1) by policy " + policy, x.family('a', 0, 1), best[policy]);
            }
        });
        s.test("It is 0 initially", () -> {
            s.due("setPolicy(2), the policy before", new DodgingHangman().setPolicy(2), 0);
            DodgingHangman x = Check.withWords("ab,ac,bb");
            x.start(2, 1);
            s.due("family(a, 0, 1)", x.family('a', 0, 1), 1);
        });
    }

    private static void guesses(Sentences s) {
        s.names("Guesses");
        s.test("When a letter is guessed, the best family by the policy becomes the candidates, and the letter is shown "
                + "in the pattern at all places of its mask", () -> {
            DodgingHangman x = Check.withWords("axaxaxax,bxbxbxbx,xaxaxaxa");
            x.start(8, 1);
            s.due("guess(x)", x.guess('x'), 4);
            s.same("candidates", Check.candidates(x), "axaxaxax,bxbxbxbx");
            s.same("pattern", Check.pattern(x), ".x.x.x.x");
            s.due("guess(a) that is lost", x.guess('a'), 0);
            s.same("pattern after the miss", Check.pattern(x), ".x.x.x.x");
            DodgingHangman y = Check.withWords("aaaaaaaa");
            y.start(8, 1);
            s.due("guess(a), all eight places", y.guess('a'), 8);
            s.same("pattern", Check.pattern(y), "aaaaaaaa");
            int[] left = {4, 1, 3};
            for (int policy = 0; policy <= 2; policy++) {
                // "a": mask 1 of four words with two fresh letters, mask 0 of one, mask 4 of three with four.
                DodgingHangman z = Check.withWords("abb,abc,acb,acc,bbb,dea,fga,dga");
                z.setPolicy(policy);
                z.start(3, 9);
                z.guess('a');
                s.due("candidates() by policy " + policy, z.candidates(), left[policy]);
            }
        });
        s.test("If the mask is 0, the guess is a miss, and there is one life less", () -> {
            DodgingHangman x = Check.withWords("ab,cd,ef");
            x.start(2, 20);
            x.guess('z');
            s.due("lives() after a letter that no candidate has", x.lives(), 19);
            x.guess('a');
            s.due("lives() after a dodge", x.lives(), 18);
            s.due("total(5)", x.total(5), 2);
            s.due("status()", x.status(), 1);
            DodgingHangman y = Check.withWords("abc");
            y.start(3, 2);
            y.guess('a');
            s.due("lives() after a letter that is shown", y.lives(), 2);
            s.due("total(5)", y.total(5), 0);
        });
        s.test("if there is no life left then, the game is lost", () -> {
            DodgingHangman x = Check.withWords("ab,cd");
            x.start(2, 2);
            x.guess('z');
            s.due("status() with one life", x.status(), 1);
            x.guess('y');
            s.due("status() with no life", x.status(), 3);
            s.due("lives()", x.lives(), 0);
            s.due("candidates()", x.candidates(), 2);
            s.due("total(2)", x.total(2), 1);
            x.start(2, 1);
            x.guess('a');
            s.due("status() after the only life", x.status(), 3);
            s.due("total(2)", x.total(2), 2);
        });
        s.test("If no place is hidden any more, the game is won", () -> {
            DodgingHangman x = Check.withWords("abca");
            x.start(4, 1);
            x.guess('a');
            x.guess('b');
            s.due("status() with one place hidden", x.status(), 1);
            s.due("total(1)", x.total(1), 0);
            s.due("guess(c)", x.guess('c'), 1);
            s.due("status() with no place hidden", x.status(), 2);
            s.due("lives()", x.lives(), 1);
            s.due("total(1)", x.total(1), 1);
            DodgingHangman y = Check.withWords("abcdefgh");
            y.start(8, 1);
            for (int letter = 'h'; letter > 'a'; letter--) {
                y.guess(letter);
                s.due("status() after " + (char) letter, y.status(), 1);
            }
            y.guess('a');
            s.due("status() after a", y.status(), 2);
        });
    }

    private static void dodges(Sentences s) {
        s.test("A miss is a dodge if some candidate had the letter before", () -> {
            DodgingHangman x = Check.withWords("ab,cd,ef,xyz");
            x.start(2, 9);
            x.guess('z');
            s.due("total(6), as no candidate had z, only another word of the list", x.total(6), 0);
            x.guess('a');
            s.due("total(6), as ab had it", x.total(6), 1);
            x.guess('b');
            s.due("total(6), as ab is no candidate any more", x.total(6), 1);
            s.due("total(5)", x.total(5), 3);
            x.guess('c');
            s.due("total(6), as cd had it", x.total(6), 2);
            x.guess('e');
            s.due("total(6), as e is shown", x.total(6), 2);
            // Both families of "a" have places: words are given up without a miss.
            DodgingHangman y = Check.withWords("ab,ba");
            y.start(2, 9);
            y.guess('a');
            s.due("total(6), as it is no miss", y.total(6), 0);
            DodgingHangman z = Check.withWords("ab,cd,ce");
            z.start(2, 1);
            z.guess('a');
            s.due("status() after the last life", z.status(), 3);
            s.due("total(6) with the last life", z.total(6), 1);
        });
    }

    private static void wordGuesses(Sentences s) {
        s.test("When a word is guessed, the game is won if this word is the only candidate", () -> {
            DodgingHangman x = Check.withWords("ab,abc");
            x.start(2, 1);
            s.due("guessWord() of ab", Check.guessWord(x, "ab"), 1);
            s.due("status(), with one life", x.status(), 2);
            s.due("lives()", x.lives(), 1);
            s.due("candidates()", x.candidates(), 1);
            s.due("total(1)", x.total(1), 1);
            s.due("total(5)", x.total(5), 0);
            DodgingHangman y = Check.withWords("ab,cd");
            y.start(2, 9);
            s.due("guessWord() of one of two candidates", Check.guessWord(y, "cd"), 0);
            s.due("status()", y.status(), 1);
            s.due("guessWord() of the one that is left", Check.guessWord(y, "ab"), 1);
            s.due("status()", y.status(), 2);
        });
        s.test("then all places are shown", () -> {
            DodgingHangman x = Check.withWords("abcdefgh");
            x.start(8, 1);
            x.guess('d');
            Check.guessWord(x, "abcdefgh");
            s.same("pattern", Check.pattern(x), "abcdefgh");
            s.same("guessed letters", Check.guessed(x), "d");
            DodgingHangman y = Check.withWords("ab");
            y.start(2, 1);
            Check.guessWord(y, "ab");
            s.same("pattern", Check.pattern(y), "ab");
        });
        s.test("Otherwise (also if it is no word of the list) it is a miss, with one life less, and the word is no "
                + "candidate any more", () -> {
            DodgingHangman x = Check.withWords("ab,cd,ef");
            x.start(2, 9);
            Check.guessWord(x, "zz");
            s.due("lives() after no word of the list", x.lives(), 8);
            s.same("candidates", Check.candidates(x), "ab,cd,ef");
            Check.guessWord(x, "cd");
            s.due("lives() after a candidate", x.lives(), 7);
            s.same("candidates", Check.candidates(x), "ab,ef");
            Check.guessWord(x, "cd");
            s.due("lives() after a word that was a candidate", x.lives(), 6);
            s.same("candidates", Check.candidates(x), "ab,ef");
            x.guess('a');
            Check.guessWord(x, "zz");
            s.due("lives() after another word than the only candidate", x.lives(), 4);
            s.same("candidates", Check.candidates(x), "ef");
            s.same("pattern", Check.pattern(x), "..");
            s.due("status()", x.status(), 1);
            s.due("total(5)", x.total(5), 5);
        });
        s.test("it is a dodge if it was one", () -> {
            DodgingHangman x = Check.withWords("ab,cd,ef");
            x.start(2, 9);
            Check.guessWord(x, "zz");
            s.due("total(6) after no word of the list", x.total(6), 0);
            Check.guessWord(x, "cd");
            s.due("total(6) after a candidate", x.total(6), 1);
            Check.guessWord(x, "cd");
            s.due("total(6) after it again", x.total(6), 1);
            Check.guessWord(x, "ab");
            s.due("total(6) after one of two candidates", x.total(6), 2);
            Check.guessWord(x, "ef");
            s.due("total(6) after the only candidate", x.total(6), 2);
        });
        s.test("If there is no life left then, the game is lost", () -> {
            DodgingHangman x = Check.withWords("ab,cd,ef");
            x.start(2, 2);
            Check.guessWord(x, "ab");
            s.due("status() with one life", x.status(), 1);
            s.due("guessWord()", Check.guessWord(x, "cd"), 0);
            s.due("status() with no life", x.status(), 3);
            s.due("lives()", x.lives(), 0);
            s.same("candidates", Check.candidates(x), "ef");
            s.same("pattern", Check.pattern(x), "..");
            s.due("total(2)", x.total(2), 1);
            s.due("total(6)", x.total(6), 2);
        });
    }

    private static void text(Sentences s) {
        s.names("Text");
        s.test("There is a text of at most 80 characters, which is empty initially", () -> {
            DodgingHangman x = new DodgingHangman();
            s.due("clearText() of a new object", x.clearText(), 0);
            Check.type(x, "a".repeat(79));
            s.due("the 80th character", x.type('a'), 80);
            s.due("the 81st character", x.type('a'), LIMIT);
            s.due("clearText()", x.clearText(), 80);
        });
        s.test("A word list is a text of the form word { \",\" word }, where a word has 2 to 8 letters", () -> {
            for (String list : new String[] {"ab", "abcdefgh", "ab,cd", "ab,ab", "zz,abcdefgh,abc,az,za"}) {
                DodgingHangman x = new DodgingHangman();
                Check.type(x, list);
                s.due("syntaxError() of " + list, x.syntaxError(), NONE);
            }
            for (String other : new String[] {"", "a", ",", "ab,", ",ab", "ab,,cd", "ab,c", "abcdefghi", "a,bc", "ab.cd",
                "Ab", "ab,cd,", "ab;cd", "ab,abcdefghi", "a1"}) {
                DodgingHangman x = new DodgingHangman();
                s.due("addWords() of \"" + other + "\"", Check.add(x, other), BAD_TEXT);
            }
        });
    }

    private static void undo(Sentences s) {
        s.names("Undo");
        s.test("Methods marked \"Undoable\" save the state from before the call if they return no error code", () -> {
            DodgingHangman x = Check.withWords("ab,cd");
            Check.add(x, "ab");
            x.setPolicy(0);
            x.start(2, 1);
            s.due("undo(), of four calls, two of which added and changed nothing", x.undo(), 3);
            s.due("words()", x.words(), 2);
            x.addWords();
            x.removeWord(9);
            x.setPolicy(9);
            x.start(8, 1);
            x.guess('a');
            x.guessWord();
            x.giveUp();
            s.due("undo(), as none of seven calls with an error saved a state", x.undo(), 2);
        });
        s.test("At most 6 states are saved; when a seventh one is saved, the oldest one is discarded", () -> {
            for (int saves = 1; saves <= 14; saves++) {
                DodgingHangman x = new DodgingHangman();
                for (int i = 0; i < saves; i++) {
                    Check.add(x, "a" + (char) ('a' + i));
                }
                int kept = Math.min(saves, 6);
                for (int left = kept - 1; left >= 0; left--) {
                    s.due("undo() after " + saves + " saves", x.undo(), left);
                    s.due("words()", x.words(), saves - kept + left);
                }
                s.due("undo() of the one that was discarded", x.undo(), NOT_POSSIBLE);
            }
        });
        s.test("The state is everything except the text and the saved states", () -> {
            Steps after = Scene.RUNNING.steps().then(x -> {
                x.setPolicy(0);
                x.start(2, 3);
                x.guess('z');
                x.giveUp();
                for (int back = 0; back < 4; back++) {
                    x.undo();
                }
            });
            s.same("the state", Portrait.ofState(after), Portrait.ofState(Scene.RUNNING.steps()));
            DodgingHangman x = Scene.RUNNING.steps().made();
            x.undo();
            s.due("clearText(), as undo() leaves the text", x.clearText(), 2);
            x.undo();
            s.due("clearText(), as undo() brings no text back", x.clearText(), 0);
        });
    }

    private static void errorCodes(Sentences s) {
        s.names("Error codes");
        s.test("A call that returns NO_SUCH, BAD_VALUE, NOT_POSSIBLE, LIMIT or BAD_TEXT changes nothing", () -> {
            s.changesNothing("removeWord(8)", x -> x.removeWord(8), NO_SUCH, Scene.RUNNING);
            s.changesNothing("setPolicy(3)", x -> x.setPolicy(3), BAD_VALUE, Scene.RUNNING);
            s.changesNothing("addWords()", x -> x.addWords(), NOT_POSSIBLE, Scene.RUNNING);
            s.changesNothing("addWords()", x -> x.addWords(), LIMIT, Scene.FULL_LIST.withText("aa,zz"));
            s.changesNothing("guessWord()", x -> x.guessWord(), BAD_TEXT, Scene.RUNNING.withText("abc,"));
            portraitsTellChanges(s);
        });
        s.names("NONE is not an error code");
        s.test("a call that returns NONE changes nothing either", () -> {
            s.changesNothing("guess(q)", x -> x.guess('q'), NONE, Scene.RUNNING);
            s.changesNothing("shown(0)", x -> x.shown(0), NONE, Scene.RUNNING);
            s.changesNothing("syntaxError()", x -> x.syntaxError(), NONE, Scene.RUNNING);
        });
    }

    /** That nothing was changed is only seen if the portraits tell each change. */
    private static void portraitsTellChanges(Sentences s) {
        Steps here = Scene.RUNNING.steps();
        s.differ("the policy", x -> x.setPolicy(1), x -> x.setPolicy(2));
        s.differ("the text", here, Scene.RUNNING.withText("on").steps());
        s.differ("a text of another length that is no list", Scene.RUNNING.withText("!!").steps(),
                Scene.RUNNING.withText("!").steps());
        s.differ("a saved state", here, here.then(x -> x.setPolicy(2)));
        s.differ("that a state is no more saved", here, here.then(x -> x.setPolicy(2)).then(x -> x.undo()));
        s.differ("a life", here, here.then(x -> x.guess('y')));
        s.differ("a word", Scene.NO_GAME.steps(), Scene.NO_GAME.steps().then(x -> x.removeWord(7)));
    }

    private static void errorsInOrder(Sentences s) {
        s.test("If several of them apply, the one that is named first in the @return line is returned", () -> {
            Scene fullText = Scene.RUNNING.withText("a".repeat(80));
            s.changesNothing("type(32), out of range and full", x -> x.type(32), BAD_VALUE, fullText);
            s.changesNothing("addWords(), a bad text and a running game", x -> x.addWords(), BAD_TEXT, fullText);
            Scene fullGame = Scene.FULL_LIST.and("game is running", x -> x.start(2, 3)).withText("zz");
            s.changesNothing("addWords(), a running game and a full list", x -> x.addWords(), NOT_POSSIBLE, fullGame);
            s.changesNothing("removeWord(8), no word and a running game", x -> x.removeWord(8), NO_SUCH, Scene.RUNNING);
            s.changesNothing("start(9, 1), out of range, and no word has it", x -> x.start(9, 1), BAD_VALUE, Scene.NO_GAME);
            s.changesNothing("start(8, 21), lives out of range, and no word of 8", x -> x.start(8, 21), BAD_VALUE,
                    Scene.NO_GAME);
            s.changesNothing("guess(96), out of range and no game", x -> x.guess(96), BAD_VALUE, Scene.NOT_RUNNING);
            s.changesNothing("guess(q), guessed already, in a game that is over", x -> x.guess('q'), NOT_POSSIBLE, Scene.OVER);
            s.changesNothing("guessWord(), a bad text and no game", x -> x.guessWord(), BAD_TEXT,
                    Scene.withText("ab,cd", Scene.NOT_RUNNING));
            s.changesNothing("families(96)", x -> x.families(96), BAD_VALUE, Scene.NOT_RUNNING);
            s.changesNothing("spread(96)", x -> x.spread(96), BAD_VALUE, Scene.NOT_RUNNING);
            s.changesNothing("having(96)", x -> x.having(96), BAD_VALUE, Scene.WITHOUT_GAME);
            s.changesNothing("family(96, 0, 0)", x -> x.family(96, 0, 0), BAD_VALUE, Scene.NOT_RUNNING);
            s.changesNothing("family(96, -1, 4)", x -> x.family(96, -1, 4), BAD_VALUE, Scene.RUNNING);
            s.changesNothing("family(a, -1, 4)", x -> x.family('a', -1, 4), NOT_POSSIBLE, Scene.NOT_RUNNING);
            s.changesNothing("family(q, -1, 4)", x -> x.family('q', -1, 4), NOT_POSSIBLE, Scene.RUNNING);
            s.changesNothing("family(a, 9, 4)", x -> x.family('a', 9, 4), NO_SUCH, Scene.RUNNING);
        });
    }

    private static void constants(Sentences s) {
        s.names("The constants");
        s.test("`NO_SUCH = -1`: There is no such word, letter, place, candidate, guess or family", () ->
                s.due("NO_SUCH", NO_SUCH, -1));
        s.test("Another argument is out of its range", () -> s.due("BAD_VALUE", BAD_VALUE, -2));
        s.test("The call is not possible in the present state", () -> s.due("NOT_POSSIBLE", NOT_POSSIBLE, -3));
        s.test("A limit would be exceeded", () -> s.due("LIMIT", LIMIT, -4));
        s.test("The text does not have the form that is needed", () -> s.due("BAD_TEXT", BAD_TEXT, -5));
        s.test("There is no such result", () -> s.due("NONE", NONE, -6));
    }
}
