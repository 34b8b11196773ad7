import java.util.ArrayList;
import java.util.Comparator;
import java.util.List;

/** The sentences of promises 21 to 28: what the guesses would bring, and the totals. */
public final class SentencesOfAheadTest {
    private static final int NO_SUCH = DodgingHangman.NO_SUCH;
    private static final int BAD_VALUE = DodgingHangman.BAD_VALUE;
    private static final int NOT_POSSIBLE = DodgingHangman.NOT_POSSIBLE;
    private static final int[] NO_LETTERS = {0, -1, 1, 25, 65, 90, 97 + 32, 97 - 32, 97 + 256, 97 + 65536,
        Integer.MIN_VALUE, Integer.MAX_VALUE};

    public static void main(String[] args) {
        Sentences s = Sentences.tested("SentencesOfAheadTest");
        tell(s);
        s.end();
    }

    static void tell(Sentences s) {
        families(s);
        family(s);
        familyRefused(s);
        spread(s);
        having(s);
        sureLetters(s);
        bestGuess(s);
        missesAhead(s);
        total(s);
    }

    /** Thirty words of "a" and "b", each with another mask of "a": 1 to 30. */
    private static final Scene THIRTY_MASKS = new Scene("thirty masks", x -> {
        for (int first = 1; first <= 30; first += 10) {
            StringBuilder text = new StringBuilder();
            for (int mask = first; mask < first + 10; mask++) {
                text.append(mask == first ? "" : ",");
                for (int place = 0; place < 5; place++) {
                    text.append((mask >> place & 1) == 1 ? 'a' : 'b');
                }
            }
            Check.add(x, text.toString());
        }
        x.start(5, 3);
    });
    private static final Scene THIRTY_WORDS = new Scene("thirty words of one family", x -> {
        Check.add(x, "aa,ab,ac,ad,ae,af,ag,ah,ai,aj,ak,al,am,an,ao");
        Check.add(x, "ba,bb,bc,bd,be,bf,bg,bh,bi,bj,bk,bl,bm,bn,bo");
        x.start(2, 3);
    });

    private static void refusedLetters(Sentences s, String call, Sentences.Ask first, Sentences.Ask last) {
        s.changesNothing(call + " of 96", first, BAD_VALUE, Scene.ALL);
        s.changesNothing(call + " of 123", last, BAD_VALUE, Scene.ALL);
    }

    private static void families(Sentences s) {
        s.under("Promise 21: families");
        s.test("Returns the number of families for a letter", () -> {
            s.changesNothing("families(a), which all have at one place", x -> x.families('a'), 1, Scene.RUNNING);
            s.changesNothing("families(c)", x -> x.families('c'), 2, Scene.RUNNING);
            s.changesNothing("families(z), which none has", x -> x.families('z'), 1, Scene.RUNNING);
            s.changesNothing("families(a), the most", x -> x.families('a'), 30, THIRTY_MASKS);
            s.changesNothing("families(b), the most", x -> x.families('b'), 30, THIRTY_MASKS);
            s.changesNothing("families(a)", x -> x.families('a'), 4, THIRTY_WORDS);
            s.due("families(a) of one candidate", Scene.FULL_LIST.steps().then(x -> x.start(8, 1)).made().families('z'), 1);
        });
        s.test("97 to 122", () -> {
            for (int letter = 97; letter <= 122; letter++) {
                DodgingHangman x = Check.withWords("" + (char) letter + (char) letter);
                x.start(2, 1);
                s.due("families(" + letter + ")", x.families(letter), 1);
            }
        });
        s.names("Returns the number");
        s.test("BAD_VALUE if letter is out of range", () -> {
            refusedLetters(s, "families()", x -> x.families(96), x -> x.families(123));
            for (int letter : NO_LETTERS) {
                s.changesNothing("families(" + letter + ")", x -> x.families(letter), BAD_VALUE, Scene.RUNNING);
            }
        });
        s.test("NOT_POSSIBLE if no game is running, or if the letter was guessed", () -> {
            s.changesNothing("families(97)", x -> x.families(97), NOT_POSSIBLE, Scene.NOT_RUNNING);
            s.changesNothing("families(122)", x -> x.families(122), NOT_POSSIBLE, Scene.NOT_RUNNING);
            s.changesNothing("families(q), a miss", x -> x.families('q'), NOT_POSSIBLE, Scene.RUNNING);
            s.changesNothing("families(e), a dodge", x -> x.families('e'), NOT_POSSIBLE, Scene.RUNNING);
            s.changesNothing("families(b), which is shown", x -> x.families('b'), NOT_POSSIBLE, Scene.RUNNING);
        });
    }

    private static void family(Sentences s) {
        s.under("Promise 22: family");
        s.names("Returns something about a family");
        s.names("Returns the number");
        s.test("97 to 122", () -> {
            for (int letter = 97; letter <= 122; letter++) {
                DodgingHangman x = Check.withWords("" + (char) letter + (char) letter);
                x.start(2, 1);
                s.due("family(" + letter + ", 0, 1)", x.family(letter, 0, 1), 3);
            }
        });
        s.test("0 for the best family by the policy", () -> {
            List<Integer> masks = new ArrayList<>();
            for (int mask = 1; mask <= 30; mask++) {
                masks.add(mask);
            }
            masks.sort(Comparator.comparingInt((Integer mask) -> Integer.bitCount(mask)).thenComparingInt(mask -> mask));
            for (int policy = 0; policy <= 2; policy++) {
                DodgingHangman x = THIRTY_MASKS.steps().made();
                x.setPolicy(policy);
                for (int rank = 0; rank < 30; rank++) {
                    s.due("family(a, " + rank + ", 1) by policy " + policy, x.family('a', rank, 1), masks.get(rank));
                }
            }
            // By policy 2, abd is better for "c" than abc: "d" is fresh in it, and nothing is in abc.
            s.changesNothing("family(c, 0, 1)", x -> x.family('c', 0, 1), 0, Scene.RUNNING);
            s.changesNothing("family(c, 1, 1)", x -> x.family('c', 1, 1), 4, Scene.RUNNING);
        });
        s.test("0 for its size, 1 for its mask, 2 for its first word, 3 for its freshness", () -> {
            s.changesNothing("family(a, 0, 0)", x -> x.family('a', 0, 0), 2, Scene.RUNNING);
            s.changesNothing("family(a, 0, 1)", x -> x.family('a', 0, 1), 1, Scene.RUNNING);
            s.changesNothing("family(a, 0, 2)", x -> x.family('a', 0, 2), 1, Scene.RUNNING);
            s.changesNothing("family(a, 0, 3), c and d", x -> x.family('a', 0, 3), 2, Scene.RUNNING);
            s.changesNothing("family(z, 0, 0), the most", x -> x.family('z', 0, 0), 30, THIRTY_WORDS);
            s.changesNothing("family(z, 0, 1), no place", x -> x.family('z', 0, 1), 0, THIRTY_WORDS);
            s.changesNothing("family(z, 0, 2), the first word of all", x -> x.family('z', 0, 2), 0, THIRTY_WORDS);
            s.changesNothing("family(z, 0, 3), a to o", x -> x.family('z', 0, 3), 15, THIRTY_WORDS);
            // "o": aa to bn without ao and bo, then ao and bo.
            s.changesNothing("family(o, 1, 0)", x -> x.family('o', 1, 0), 2, THIRTY_WORDS);
            s.changesNothing("family(o, 1, 2), ao", x -> x.family('o', 1, 2), 14, THIRTY_WORDS);
            Scene last = Scene.FULL_LIST.and("game of one word", x -> x.start(8, 1));
            s.changesNothing("family(z, 0, 2), the last word of all", x -> x.family('z', 0, 2), 29, last);
            s.changesNothing("family(s, 0, 1), the last place", x -> x.family('s', 0, 1), 128, last);
            s.changesNothing("family(a, 0, 3), eight letters", x -> x.family('a', 0, 3), 8, last);
            Scene same = Scene.NEW.and("one letter", x -> {
                Check.add(x, "zzzzzzzz");
                x.start(8, 1);
            });
            s.changesNothing("family(z, 0, 3), nothing fresh", x -> x.family('z', 0, 3), 0, same);
            s.changesNothing("family(z, 0, 1), all places", x -> x.family('z', 0, 1), 255, same);
        });
    }

    private static void familyRefused(Sentences s) {
        s.test("BAD_VALUE if letter is out of range", () -> {
            refusedLetters(s, "family()", x -> x.family(96, 0, 0), x -> x.family(123, 0, 0));
            for (int letter : NO_LETTERS) {
                s.changesNothing("family(" + letter + ", 0, 0)", x -> x.family(letter, 0, 0), BAD_VALUE, Scene.RUNNING);
            }
        });
        s.test("NOT_POSSIBLE if no game is running, or if the letter was guessed", () -> {
            for (int what = 0; what <= 3; what++) {
                int asked = what;
                s.changesNothing("family(97, 0, " + what + ")", x -> x.family(97, 0, asked), NOT_POSSIBLE, Scene.NOT_RUNNING);
                for (int letter : new int[] {'q', 'e', 'b'}) {
                    s.changesNothing("family(" + letter + ", 0, " + what + "), guessed", x -> x.family(letter, 0, asked),
                            NOT_POSSIBLE, Scene.RUNNING);
                }
            }
        });
        s.test("NO_SUCH if there is no such family", () -> {
            for (int what = 0; what <= 3; what++) {
                int asked = what;
                s.changesNothing("family(a, 1, " + what + "), of one", x -> x.family('a', 1, asked), NO_SUCH, Scene.RUNNING);
                s.changesNothing("family(c, 2, " + what + "), of two", x -> x.family('c', 2, asked), NO_SUCH, Scene.RUNNING);
                s.changesNothing("family(a, -1, " + what + ")", x -> x.family('a', -1, asked), NO_SUCH, Scene.RUNNING);
                s.changesNothing("family(a, 30, " + what + "), of 30", x -> x.family('a', 30, asked), NO_SUCH, THIRTY_MASKS);
            }
            for (int rank : Sentences.FAR) {
                s.changesNothing("family(a, " + rank + ", 0)", x -> x.family('a', rank, 0), NO_SUCH, Scene.RUNNING);
            }
            s.changesNothing("family(a, 29, 0), of 30", x -> x.family('a', 29, 0), 1, THIRTY_MASKS);
        });
        s.test("BAD_VALUE if what is out of range", () -> {
            s.changesNothing("family(a, 0, -1)", x -> x.family('a', 0, -1), BAD_VALUE, Scene.RUNNING, THIRTY_MASKS);
            s.changesNothing("family(a, 0, 4)", x -> x.family('a', 0, 4), BAD_VALUE, Scene.RUNNING, THIRTY_MASKS);
            s.changesNothing("family(c, 1, 4), the last family", x -> x.family('c', 1, 4), BAD_VALUE, Scene.RUNNING);
            for (int what : Sentences.FAR) {
                s.changesNothing("family(a, 0, " + what + ")", x -> x.family('a', 0, what), BAD_VALUE, Scene.RUNNING);
            }
        });
    }

    private static void spread(Sentences s) {
        s.under("Promise 23: spread");
        s.test("Returns the mean size of the family in which a candidate is, in thousandths: 1000 * (the sum of the squares "
                + "of all sizes) / (the number of candidates)", () -> {
            s.changesNothing("spread(a), one family", x -> x.spread('a'), 2000, Scene.RUNNING);
            s.changesNothing("spread(c), two families", x -> x.spread('c'), 1000, Scene.RUNNING);
            s.changesNothing("spread(z), one family of 30", x -> x.spread('z'), 30000, THIRTY_WORDS);
            s.changesNothing("spread(a), 30 families", x -> x.spread('a'), 1000, THIRTY_MASKS);
            // "a": aa; ab to ao; ba; bb to bo: 1 + 196 + 1 + 196 of 30, rounded down.
            s.changesNothing("spread(a)", x -> x.spread('a'), 13133, THIRTY_WORDS);
        });
        s.test("97 to 122", () -> {
            for (int letter = 97; letter <= 122; letter++) {
                // The letter's own word, and two without it.
                DodgingHangman x = Check.withWords("" + (char) letter + (char) letter + (letter < 'm' ? ",xy,yx" : ",ab,ba"));
                x.start(2, 1);
                s.due("spread(" + letter + "), 1000 * (1 + 4) / 3", x.spread(letter), 1666);
            }
        });
        s.names("Returns the mean");
        s.test("BAD_VALUE if letter is out of range", () -> {
            refusedLetters(s, "spread()", x -> x.spread(96), x -> x.spread(123));
            for (int letter : NO_LETTERS) {
                s.changesNothing("spread(" + letter + ")", x -> x.spread(letter), BAD_VALUE, Scene.RUNNING);
            }
        });
        s.test("NOT_POSSIBLE if no game is running, or if the letter was guessed", () -> {
            s.changesNothing("spread(97)", x -> x.spread(97), NOT_POSSIBLE, Scene.NOT_RUNNING);
            s.changesNothing("spread(122)", x -> x.spread(122), NOT_POSSIBLE, Scene.NOT_RUNNING);
            for (int letter : new int[] {'q', 'e', 'b'}) {
                s.changesNothing("spread(" + letter + "), guessed", x -> x.spread(letter), NOT_POSSIBLE, Scene.RUNNING);
            }
        });
    }

    private static void having(Sentences s) {
        s.under("Promise 24: having");
        s.test("Returns the number of candidates that have a letter, whether it was guessed or not", () -> {
            s.changesNothing("having(a), not guessed", x -> x.having('a'), 2, Scene.RUNNING);
            s.changesNothing("having(c), one of two", x -> x.having('c'), 1, Scene.RUNNING);
            s.changesNothing("having(b), guessed and shown", x -> x.having('b'), 2, Scene.RUNNING, Scene.LOST);
            s.changesNothing("having(e), guessed and dodged", x -> x.having('e'), 0, Scene.RUNNING, Scene.LOST, Scene.WON);
            s.changesNothing("having(z), of another word of the list", x -> x.having('z'), 0, Scene.RUNNING);
            s.changesNothing("having(d), the game is over", x -> x.having('d'), 1, Scene.OVER);
            s.changesNothing("having(a), twice in a word", x -> x.having('a'), 16, THIRTY_WORDS);
            s.changesNothing("having(b), all", x -> x.having('b'), 30, THIRTY_MASKS);
        });
        s.test("97 to 122", () -> {
            for (int letter = 97; letter <= 122; letter++) {
                DodgingHangman x = Check.withWords("" + (char) letter + (char) letter);
                x.start(2, 1);
                s.due("having(" + letter + ")", x.having(letter), 1);
            }
        });
        s.names("Returns the number");
        s.test("BAD_VALUE if letter is out of range", () -> {
            refusedLetters(s, "having()", x -> x.having(96), x -> x.having(123));
            for (int letter : NO_LETTERS) {
                s.changesNothing("having(" + letter + ")", x -> x.having(letter), BAD_VALUE, Scene.RUNNING, Scene.WON);
            }
        });
        s.test("NOT_POSSIBLE if there is no game", () -> {
            s.changesNothing("having(97)", x -> x.having(97), NOT_POSSIBLE, Scene.WITHOUT_GAME);
            s.changesNothing("having(122)", x -> x.having(122), NOT_POSSIBLE, Scene.WITHOUT_GAME);
            s.changesNothing("having(97) after addWords()", x -> x.having(97), NOT_POSSIBLE,
                    Scene.WON.and("a word is added", x -> x.addWords()));
            s.changesNothing("having(97) after removeWord()", x -> x.having(97), NOT_POSSIBLE,
                    Scene.GIVEN_UP.and("a word is removed", x -> x.removeWord(0)));
        });
    }

    private static int sure(String words, String guesses) {
        DodgingHangman x = Check.withWords(words);
        x.start(words.split(",")[0].length(), 9);
        for (int i = 0; i < guesses.length(); i++) {
            x.guess(guesses.charAt(i));
        }
        return x.sureLetters();
    }

    private static void sureLetters(Sentences s) {
        s.under("Promise 25: sureLetters");
        s.test("Returns the set of letters that were not guessed and occur in all candidates", () -> {
            s.changesNothing("sureLetters(), a; b was guessed", x -> x.sureLetters(), 1, Scene.RUNNING);
            s.changesNothing("sureLetters(), a and b", x -> x.sureLetters(), 3, THIRTY_MASKS);
            s.changesNothing("sureLetters(), none", x -> x.sureLetters(), 0, THIRTY_WORDS);
            s.due("sureLetters() at different places", sure("abc,cab,bca", ""), 7);
            s.due("sureLetters() in all but one", sure("abc,cab,bcd", ""), 6);
            s.due("sureLetters() of all but a guessed one", sure("abc,cba", "b"), 5);
            s.due("sureLetters(), all but one letter guessed", sure("abc", "ab"), 4);
            s.due("sureLetters(), each letter of the only candidate", sure("abcdefgh", ""), 255);
        });
        s.names("Returns the set");
        s.test("bit i is 1 if the letter with the code 97 + i is in it", () -> {
            for (int i = 0; i < 26; i++) {
                char letter = (char) (97 + i);
                s.due("sureLetters() of " + letter, sure("" + letter + letter, ""), 1 << i);
            }
            s.due("sureLetters() of the first and the last letter", sure("az,za", ""), 1 + (1 << 25));
        });
        s.test("NOT_POSSIBLE if no game is running", () ->
                s.changesNothing("sureLetters()", x -> x.sureLetters(), NOT_POSSIBLE, Scene.NOT_RUNNING));
    }

    private static void best(Sentences s, String words, int policy, int want) {
        Scene scene = Scene.NEW.and(words + ", policy " + policy, x -> {
            Check.add(x, words);
            x.setPolicy(policy);
            x.start(words.split(",")[0].length(), 9);
        });
        s.changesNothing("bestGuess()", x -> x.bestGuess(), want, scene);
    }

    private static void bestGuess(Sentences s) {
        s.under("Promise 26: bestGuess");
        s.test("Finds the letter that was not guessed whose best family by the policy has the least size", () -> {
            // Sizes of the best families: b 2, at one place; c 2, at none; d 3; of all others 4.
            best(s, "bb,bc,bd,cb", 0, 'b');
            best(s, "ab,ac,ba,zz", 0, 'a');
            // "a" would leave two words, "z" one, if mask 0 is the best; by size "a" leaves two and "z" four.
            best(s, "az,bz,cz,dz,ab", 0, 'a');
            best(s, "az,bz,cz,dz,ab", 1, 'z');
            // By policy 0, "b" leaves the first word, as mask 0; by policy 2, "e" leaves it too, and shows a place.
            best(s, "xefgh,ybbbb,bybbb,bbybb", 0, 'b');
            best(s, "xefgh,ybbbb,bybbb,bbybb", 2, 'e');
            s.changesNothing("bestGuess(), a was not guessed", x -> x.bestGuess(), 'c', Scene.RUNNING);
            s.changesNothing("bestGuess(), the only family of each letter", x -> x.bestGuess(), 'a', THIRTY_MASKS);
        });
        s.test("of several letters the one with the most places in the mask of this family", () -> {
            best(s, "abcc", 0, 'c');
            best(s, "abzz", 1, 'z');
            best(s, "aabbb", 2, 'b');
            // One word is left by each: by "a" and "c" without a place, by "b" with two.
            best(s, "aabbb,cccbb", 0, 'b');
        });
        s.test("of several the lowest letter", () -> {
            best(s, "zy", 0, 'y');
            best(s, "ab,cd", 0, 'a');
            best(s, "zyxwvuts", 0, 's');
            best(s, "bbzz", 0, 'b');
        });
        s.names("Returns the letter");
        s.test("NOT_POSSIBLE if no game is running", () ->
                s.changesNothing("bestGuess()", x -> x.bestGuess(), NOT_POSSIBLE, Scene.NOT_RUNNING));
        s.test("NONE if all letters were guessed", () -> {
            // It cannot be reached: with the last letter all places are shown, and the game is over.
            DodgingHangman x = Check.withWords("bcdefghz");
            x.start(8, 20);
            for (char letter : "yxwvutsrqponmlkjiabcdefgh".toCharArray()) {
                x.guess(letter);
            }
            s.due("bestGuess(), one letter is left", x.bestGuess(), 'z');
            x.guess('z');
            s.due("bestGuess(), all letters are guessed", x.bestGuess(), NOT_POSSIBLE);
            s.due("missesAhead()", x.missesAhead(), NOT_POSSIBLE);
        });
    }

    /** The misses that come when the best guess is really made again and again. */
    private static int playedMisses(DodgingHangman x) {
        int before = x.total(5);
        for (int i = 0; i < 26 && x.status() == 1; i++) {
            x.guess(x.bestGuess());
        }
        return x.status() == 1 ? -100 : x.total(5) - before;
    }

    private static Scene lastLetters(int lives) {
        return Scene.NEW.and("26 words of one beginning, " + lives + " lives", x -> {
            StringBuilder text = new StringBuilder();
            for (char letter = 'a'; letter <= 'z'; letter++) {
                text.append(letter == 'a' ? "x" : ",x").append(letter);
            }
            Check.add(x, text.toString());
            x.start(2, lives);
        });
    }

    private static void missesAhead(Sentences s) {
        s.under("Promise 27: missesAhead");
        s.test("Finds out how many misses there would be if bestGuess() was guessed again and again, until the game is "
                + "over", () -> {
            for (int lives = 1; lives <= 20; lives++) {
                s.changesNothing("missesAhead(), until no life is left", x -> x.missesAhead(), lives, lastLetters(lives));
            }
            Scene sure = Scene.FULL_LIST.and("game of one word", x -> x.start(8, 1));
            s.changesNothing("missesAhead() of one candidate", x -> x.missesAhead(), 0, sure);
            Scene[] scenes = {Scene.RUNNING, THIRTY_MASKS, THIRTY_WORDS, lastLetters(20), sure};
            for (Scene scene : scenes) {
                for (int policy = 0; policy <= 2; policy++) {
                    int asked = policy;
                    Scene there = scene.and("policy " + policy, x -> x.setPolicy(asked));
                    int misses = playedMisses(there.steps().made());
                    s.changesNothing("missesAhead()", x -> x.missesAhead(), misses, there);
                }
            }
        });
        s.names("Returns the number of misses");
        s.test("NOT_POSSIBLE if no game is running", () ->
                s.changesNothing("missesAhead()", x -> x.missesAhead(), NOT_POSSIBLE, Scene.NOT_RUNNING));
    }

    private static void total(Sentences s) {
        s.under("Promise 28: total");
        s.test("Returns a number of all games", () -> {
            DodgingHangman x = Check.withWords("ab,cd");
            for (int games = 1; games <= 40; games++) {
                x.start(2, 1);
                x.guess('z');
                s.due("total(0)", x.total(0), games);
                s.due("total(2)", x.total(2), games);
                s.due("total(3)", x.total(3), games);
                s.due("total(5)", x.total(5), games);
            }
            x.removeWord(0);
            s.due("total(2) when there is no game", x.total(2), 40);
            x.undo();
            x.undo();
            s.due("total(2), of which one is undone", x.total(2), 39);
        });
        s.test("0 for games that were started, 1 for games won, 2 for games lost, 3 for letters that were guessed, 4 for "
                + "words that were guessed, 5 for misses, 6 for dodges", () -> {
            int[] running = {1, 0, 0, 3, 1, 3, 1};
            int[] won = {1, 1, 0, 3, 3, 4, 2};
            int[] lost = {1, 0, 1, 6, 1, 6, 1};
            int[] givenUp = {1, 0, 1, 3, 1, 3, 1};
            for (int what = 0; what <= 6; what++) {
                int asked = what;
                s.changesNothing("total(" + what + ")", x -> x.total(asked), 0, Scene.NEW, Scene.NO_GAME, Scene.FULL_LIST);
                s.changesNothing("total(" + what + ")", x -> x.total(asked), running[what], Scene.RUNNING);
                s.changesNothing("total(" + what + ")", x -> x.total(asked), won[what], Scene.WON);
                s.changesNothing("total(" + what + ")", x -> x.total(asked), lost[what], Scene.LOST);
                s.changesNothing("total(" + what + ")", x -> x.total(asked), givenUp[what], Scene.GIVEN_UP);
            }
        });
        s.names("Returns the number");
        s.test("BAD_VALUE if what is out of range", () -> {
            s.changesNothing("total(-1)", x -> x.total(-1), BAD_VALUE, Scene.ALL);
            s.changesNothing("total(7)", x -> x.total(7), BAD_VALUE, Scene.ALL);
            for (int what : Sentences.FAR) {
                s.changesNothing("total(" + what + ")", x -> x.total(what), BAD_VALUE, Scene.RUNNING);
            }
        });
    }
}
