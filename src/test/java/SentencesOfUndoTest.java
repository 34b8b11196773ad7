import java.util.ArrayList;
import java.util.List;

/** The sentences of promises 29 and 30: undo, and the digest. */
public final class SentencesOfUndoTest {
    private static final int NOT_POSSIBLE = DodgingHangman.NOT_POSSIBLE;

    public static void main(String[] args) {
        Sentences s = Sentences.tested("SentencesOfUndoTest");
        tell(s);
        s.end();
    }

    static void tell(Sentences s) {
        undo(s);
        undoRefused(s);
        digestFormula(s);
        digestValues(s);
        digestGames(s);
    }

    /** Calls that each save a state, with which an object comes from nothing through all states of a game. */
    private static final List<Steps> SAVING = List.of(
            x -> Check.add(x, "ab,abc,abd,zz"), x -> x.setPolicy(1), x -> x.start(3, 2), x -> x.guess('a'),
            x -> x.guess('z'), x -> x.start(2, 3), x -> x.guess('z'), x -> Check.guessWord(x, "cd"),
            x -> Check.guessWord(x, "ab"), x -> x.removeWord(0), x -> x.start(3, 9), x -> x.giveUp(),
            x -> Check.add(x, "ab,yz"), x -> x.setPolicy(2), x -> x.start(3, 1), x -> x.guess('y'));

    private static Steps first(int calls) {
        Steps all = x -> { };
        for (Steps call : SAVING.subList(0, calls)) {
            all = all.then(call);
        }
        return all;
    }

    private static void undo(Sentences s) {
        s.under("Promise 29: undo");
        s.test("Restores the state that was saved last, and discards it from the saved states", () -> {
            for (int calls = 1; calls <= SAVING.size(); calls++) {
                Steps there = first(calls);
                for (int back = 1; back <= Math.min(calls, 6); back++) {
                    there = there.then(x -> x.undo());
                    s.same("the state after " + calls + " calls and " + back + " of undo()", Portrait.ofState(there),
                            Portrait.ofState(first(calls - back)));
                }
            }
            DodgingHangman x = Check.withWords("ab,cd,ef,gh");
            x.removeWord(0);
            x.removeWord(0);
            x.undo();
            x.removeWord(2);
            s.same("the list", Check.list(x), "cd,ef");
            x.undo();
            s.same("the list after undo() of the newer call", Check.list(x), "cd,ef,gh");
            x.undo();
            s.same("the list after undo() of the older call, not of the one that was undone", Check.list(x), "ab,cd,ef,gh");
            x.undo();
            s.same("the list", Check.list(x), "");
        });
        s.test("Returns the number of saved states that are left", () -> {
            for (int calls = 1; calls <= SAVING.size(); calls++) {
                DodgingHangman x = first(calls).made();
                for (int left = Math.min(calls, 6) - 1; left >= 0; left--) {
                    s.due("undo() after " + calls + " calls", x.undo(), left);
                }
                s.due("undo() after " + calls + " calls, once more", x.undo(), NOT_POSSIBLE);
                x.setPolicy(1);
                s.due("undo() of the next call", x.undo(), 0);
            }
            // Each undo() makes room for one state again.
            DodgingHangman x = first(6).made();
            x.undo();
            x.setPolicy(0);
            s.due("undo() of six again", x.undo(), 5);
            x.setPolicy(0);
            x.setPolicy(1);
            s.due("undo() of seven, the oldest discarded", x.undo(), 5);
        });
        s.test("Restores the state that was saved last, and discards it from the saved states", () -> {
            // 512 calls are promised: the places of saved states come round and round.
            DodgingHangman x = new DodgingHangman();
            for (int call = 0; call < 500; call++) {
                x.setPolicy(call / 4 % 3);
            }
            for (int left = 5; left >= 0; left--) {
                s.due("undo() after 500 calls", x.undo(), left);
            }
            s.due("undo()", x.undo(), NOT_POSSIBLE);
            s.due("the policy of six calls before", x.setPolicy(0), 493 / 4 % 3);
            DodgingHangman y = Check.withWords("ab,cd");
            for (int calls = 0; calls < 240; calls++) {
                y.start(2, 1 + calls % 20);
                s.due("undo() of each start()", y.undo(), 1);
            }
            s.due("total(0)", y.total(0), 0);
        });
    }

    private static void undoRefused(Sentences s) {
        s.test("NOT_POSSIBLE if no state is saved", () -> {
            s.changesNothing("undo() of a new object", x -> x.undo(), NOT_POSSIBLE, Scene.NEW, Scene.NEW.withText("ab"));
            Steps sixUndone = x -> {
                for (int back = 0; back < 6; back++) {
                    x.undo();
                }
            };
            s.changesNothing("undo() after six", x -> x.undo(), NOT_POSSIBLE, Scene.NO_GAME.and("undone", sixUndone),
                    Scene.RUNNING.and("undone", sixUndone), Scene.WON.and("undone", sixUndone),
                    Scene.LOST.and("undone", sixUndone));
            s.changesNothing("undo() after the only one", x -> x.undo(), NOT_POSSIBLE,
                    Scene.NEW.and("words added and undone", x -> {
                        Check.add(x, "ab");
                        x.undo();
                    }));
            s.changesNothing("undo() when only refused calls were made", x -> x.undo(), NOT_POSSIBLE,
                    Scene.NEW.and("refused calls", x -> {
                        x.addWords();
                        x.removeWord(0);
                        x.setPolicy(3);
                        x.start(2, 1);
                        x.guess('a');
                        x.guessWord();
                        x.giveUp();
                    }));
        });
    }

    /** The digest, put together from what the other calls answer, in the order of the document. */
    private static List<Long> values(DodgingHangman x) {
        List<Long> all = new ArrayList<>();
        all.add((long) x.words());
        for (int number = 0; number < x.words(); number++) {
            String word = Check.wordAt(x, number);
            all.add((long) word.length());
            word.chars().forEach(letter -> all.add((long) letter));
        }
        all.add((long) x.status());
        all.add((long) x.lives());
        for (int place = 0; x.shown(place) != DodgingHangman.NO_SUCH; place++) {
            all.add((long) x.shown(place));
        }
        all.add((long) x.candidates());
        for (int index = 0; index < x.candidates(); index++) {
            all.add((long) x.candidate(index));
        }
        all.add((long) x.guesses());
        for (int index = 0; index < x.guesses(); index++) {
            all.add((long) x.guessAt(index));
        }
        if (x.status() == 1) {
            all.add((long) x.sureLetters());
            all.add((long) x.bestGuess());
        }
        for (int what = 0; what <= 6; what++) {
            all.add((long) x.total(what));
        }
        return all;
    }

    private static long hash(List<Long> values) {
        long hash = 131;
        for (long value : values) {
            hash = 31 * hash + value;
        }
        return hash;
    }

    private static void digestFormula(Sentences s) {
        s.under("Promise 30: digest");
        s.names("Computes a hash of the state");
        s.names("Returns the hash");
        s.names("The list is");
        s.test("The hash starts at 131", () -> {
            // 131 * 31 to the power of 12, in 64 bits.
            s.due("digest() of a new object", new DodgingHangman().digest(), -7496639765957291005L);
        });
        s.test("For each value v of the following list, in order, the hash becomes 31 * hash + v, in long arithmetic with "
                + "overflow", () -> {
            s.due("digest() of two words", Check.withWords("ab,cde").digest(), -2230746802299516869L);
            for (Scene scene : Scene.ALL) {
                s.due("digest(), " + scene.name(), scene.steps().made().digest(), hash(values(scene.steps().made())));
                s.same("the portrait after digest(), " + scene.name(), Portrait.of(scene.steps().then(x -> x.digest())),
                        Portrait.of(scene.steps()));
            }
            for (int calls = 0; calls <= SAVING.size(); calls++) {
                s.due("digest() after " + calls + " calls", first(calls).made().digest(), hash(values(first(calls).made())));
            }
        });
    }

    private static void listIs(Sentences s, String what, Steps there, long... want) {
        List<Long> due = new ArrayList<>();
        for (long value : want) {
            due.add(value);
        }
        s.due("digest(), " + what, there.made().digest(), hash(due));
    }

    private static void digestValues(Sentences s) {
        s.test("words(); for each word its length and its letters", () -> {
            listIs(s, "one word", x -> Check.add(x, "az"), 1, 2, 97, 122, 0, 0, 0, 0, 0, 0, 0, 0, 0, 0, 0);
            listIs(s, "the longest word", x -> Check.add(x, "abcdefgh,ab"), 2, 2, 97, 98, 8, 97, 98, 99, 100, 101, 102, 103,
                    104, 0, 0, 0, 0, 0, 0, 0, 0, 0, 0, 0);
        });
        Steps started = x -> {
            Check.add(x, "ab,ac,abc");
            x.start(2, 20);
        };
        s.test("status(); lives(); what shown() tells of all places of the game", () -> {
            // Running, 20 lives, two hidden places, candidates 0 and 2, no guess; "a" is sure, and "b" the best guess.
            listIs(s, "game is running", started, 3, 2, 97, 98, 3, 97, 98, 99, 2, 97, 99, 1, 20, -6, -6, 2, 0, 2, 0, 1, 98,
                    1, 0, 0, 0, 0, 0, 0);
        });
        s.test("candidates(); all candidates; guesses(); all letters that were guessed", () -> {
            // "b" is dodged: ac is left, "a" and "c" are sure.
            listIs(s, "letters guessed", started.then(x -> x.guess('b')).then(x -> x.guess('q')), 3, 2, 97, 98, 3, 97, 98,
                    99, 2, 97, 99, 1, 18, -6, -6, 1, 2, 2, 98, 113, 5, 97, 1, 0, 0, 2, 0, 2, 1);
        });
    }

    private static void digestGames(Sentences s) {
        Steps started = x -> {
            Check.add(x, "ab");
            x.start(2, 2);
        };
        s.test("while a game is running, sureLetters() and bestGuess()", () -> {
            listIs(s, "running", started, 1, 2, 97, 98, 1, 2, -6, -6, 1, 0, 0, 3, 97, 1, 0, 0, 0, 0, 0, 0);
            listIs(s, "won", started.then(x -> Check.guessWord(x, "ab")), 1, 2, 97, 98, 2, 2, 97, 98, 1, 0, 0,
                    1, 1, 0, 0, 1, 0, 0);
            listIs(s, "given up", started.then(x -> x.giveUp()), 1, 2, 97, 98, 3, 2, -6, -6, 1, 0, 0, 1, 0, 1, 0, 0, 0, 0);
            listIs(s, "lost", started.then(x -> x.guess('z')).then(x -> Check.guessWord(x, "zz")), 1, 2, 97, 98, 3, 0, -6,
                    -6, 1, 0, 1, 122, 1, 0, 1, 1, 1, 2, 0);
        });
        s.test("total(0) to total(6)", () -> {
            listIs(s, "no game after a game", started.then(x -> x.guess('z')).then(x -> x.guess('y'))
                    .then(x -> x.removeWord(0)), 0, 0, 0, 0, 0, 1, 0, 1, 2, 0, 2, 0);
            s.due("digest() tells no text", Scene.RUNNING.withText("ab").steps().made().digest(),
                    Scene.RUNNING.steps().made().digest());
            s.due("digest() tells no saved states", Scene.NEW.steps().then(x -> x.setPolicy(0)).made().digest(),
                    Scene.NEW.steps().made().digest());
        });
    }
}
