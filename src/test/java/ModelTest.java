/**
 * All promises at once: long runs of calls, always the same ones, on the program and on SlowHangman. After each
 * call that is not of the text the digest is asked too, so a call that changes what it must not change is found.
 * Both count as calls of the 512 for which answers are promised.
 */
public final class ModelTest {
    private static final int RUNS = 3000;
    private static final int CALLS = 512;
    private static final int[] ODD_VALUES = {-1, 0, 1, 7, 8, 30, 31, 79, 96, 97, 122, 123, 127,
        Integer.MIN_VALUE, Integer.MAX_VALUE};

    private static final Check CHECK = new Check("ModelTest");
    private static long seed;

    private DodgingHangman x = new DodgingHangman();
    private SlowHangman y = new SlowHangman();
    private final int letters;
    private final int lengths;
    private final int run;
    private int calls = 0;

    private ModelTest(int run) {
        this.run = run;
        letters = 2 + below(run % 3 == 0 ? 25 : 5);
        lengths = 1 + below(run % 4 == 0 ? 7 : 3);
    }

    public static void main(String[] args) {
        for (int run = 0; run < RUNS; run++) {
            seed = run * 7919L + 17;
            new ModelTest(run).play();
        }
        CHECK.end();
    }

    private static int below(int bound) {
        seed = seed * 6364136223846793005L + 1442695040888963407L;
        return (int) ((seed >>> 33) % bound);
    }

    private void play() {
        typeList(80);
        step(3, 0, 0, 0);
        step(7, run % 3, 0, 0);
        while (calls < CALLS - 1) {
            int kind = below(100);
            if (kind < 4) {
                typeList(6 + below(40));
                step(3, 0, 0, 0);
            } else if (kind < 6) {
                typeOddText();
            } else if (kind < 12) {
                step(1, 0, 0, 0);
                typeWord(y.candidates() > 0 && below(4) > 0 ? y.candidate(below(y.candidates())) : -1);
                step(10, 0, 0, 0);
            } else if (kind < 20) {
                step(8, 2 + below(lengths), 1 + below(below(3) == 0 ? 20 : 5), 0);
            } else if (kind < 60) {
                guessOrAsk();
            } else {
                step(below(30), value(), value(), value());
            }
        }
    }

    private void guessOrAsk() {
        int letter = below(3) == 0 && y.bestGuess() > 0 ? y.bestGuess() : 97 + below(letters);
        int families = y.families(letter);
        if (families > 0) {
            step(20, letter, 0, 0);
            step(21, letter, below(families), below(4));
            step(22, letter, 0, 0);
        }
        step(9, letter, 0, 0);
    }

    private static int value() {
        int kind = below(10);
        if (kind == 0) {
            return ODD_VALUES[below(ODD_VALUES.length)];
        }
        return kind < 5 ? below(9) : kind < 9 ? 97 + below(26) : below(130);
    }

    private void typeList(int most) {
        step(1, 0, 0, 0);
        for (int left = most; left >= 3; left -= 3) {
            int length = 2 + below(lengths);
            for (int i = 0; i < length; i++) {
                step(0, 97 + below(letters), 0, 0);
            }
            left -= length - 2;
            if (left >= 6 + lengths) {
                step(0, 44, 0, 0);
            } else {
                return;
            }
        }
    }

    private void typeOddText() {
        step(1, 0, 0, 0);
        for (int i = 0; i < 14 && below(12) > 0; i++) {
            int kind = below(20);
            step(0, kind < 4 ? 44 : kind == 4 ? 33 + below(94) : 97 + below(26), 0, 0);
            step(2, 0, 0, 0);
        }
    }

    private void typeWord(int number) {
        for (int place = 0; place < 8; place++) {
            int letter = number >= 0 ? y.letterOf(number, place) : place < 2 + lengths / 2 ? 97 + below(letters) : -1;
            if (letter < 0) {
                return;
            }
            step(0, letter, 0, 0);
        }
    }

    private void step(int call, int a, int b, int c) {
        boolean asksDigest = call > 2;
        if (calls + (asksDigest ? 2 : 1) > CALLS) {
            return;
        }
        calls++;
        String name = "run " + run + ", call " + calls + ": method " + call + " (" + a + ", " + b + ", " + c + ")";
        CHECK.due(name, ofProgram(call, a, b, c), ofModel(call, a, b, c));
        if (asksDigest) {
            calls++;
            CHECK.due(name + ", digest() after it", x.digest(), y.digest());
        }
    }

    private long ofProgram(int call, int a, int b, int c) {
        switch (call) {
            case 0: return x.type(a);
            case 1: return x.clearText();
            case 2: return x.syntaxError();
            case 3: return x.addWords();
            case 4: return x.removeWord(a);
            case 5: return x.words();
            case 6: return x.letterOf(a, b);
            case 7: return x.setPolicy(a);
            case 8: return x.start(a, b);
            case 9: return x.guess(a);
            case 10: return x.guessWord();
            case 11: return x.giveUp();
            case 12: return x.status();
            case 13: return x.lives();
            case 14: return x.shown(a);
            case 15: return x.candidates();
            case 16: return x.candidate(a);
            case 17: return x.guesses();
            case 18: return x.guessAt(a);
            case 19: return x.having(a);
            case 20: return x.families(a);
            case 21: return x.family(a, b, c);
            case 22: return x.spread(a);
            case 23: return x.sureLetters();
            case 24: return x.bestGuess();
            case 25: return x.missesAhead();
            case 26: return x.total(a);
            case 27: return x.digest();
            default: return x.undo();
        }
    }

    private long ofModel(int call, int a, int b, int c) {
        switch (call) {
            case 0: return y.type(a);
            case 1: return y.clearText();
            case 2: return y.syntaxError();
            case 3: return y.addWords();
            case 4: return y.removeWord(a);
            case 5: return y.words();
            case 6: return y.letterOf(a, b);
            case 7: return y.setPolicy(a);
            case 8: return y.start(a, b);
            case 9: return y.guess(a);
            case 10: return y.guessWord();
            case 11: return y.giveUp();
            case 12: return y.status();
            case 13: return y.lives();
            case 14: return y.shown(a);
            case 15: return y.candidates();
            case 16: return y.candidate(a);
            case 17: return y.guesses();
            case 18: return y.guessAt(a);
            case 19: return y.having(a);
            case 20: return y.families(a);
            case 21: return y.family(a, b, c);
            case 22: return y.spread(a);
            case 23: return y.sureLetters();
            case 24: return y.bestGuess();
            case 25: return y.missesAhead();
            case 26: return y.total(a);
            case 27: return y.digest();
            default: return y.undo();
        }
    }
}
