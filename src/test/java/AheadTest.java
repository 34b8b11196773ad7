/** Promises 21 to 28: what the guesses would bring, and the totals. */
public final class AheadTest {
    private static final Check CHECK = new Check("AheadTest");
    // "e": mask 0 ally cool good; mask 2 beta deal; mask 4 flew ibex; mask 8 hope; mask 9 else.
    private static final String FOURS = "ally,beta,cool,deal,else,flew,good,hope,ibex";

    public static void main(String[] args) {
        faults();
        families();
        familiesByPolicies();
        spread();
        having();
        sureLetters();
        bestGuess();
        missesAhead();
        totals();
        CHECK.end();
    }

    private static void faults() {
        DodgingHangman x = Check.withWords("ab,cd");
        allNotPossible(x, 'a');
        x.start(2, 5);
        x.guess('z');
        for (int letter : new int[] {96, 123, 0, -1, Integer.MIN_VALUE, Integer.MAX_VALUE}) {
            CHECK.promise(21, "families");
            CHECK.due("families(" + letter + ")", x.families(letter), DodgingHangman.BAD_VALUE);
            CHECK.promise(22, "family");
            CHECK.due("family(" + letter + ", 0, 0)", x.family(letter, 0, 0), DodgingHangman.BAD_VALUE);
            CHECK.promise(23, "spread");
            CHECK.due("spread(" + letter + ")", x.spread(letter), DodgingHangman.BAD_VALUE);
            CHECK.promise(24, "having");
            CHECK.due("having(" + letter + ")", x.having(letter), DodgingHangman.BAD_VALUE);
        }
        CHECK.promise(21, "families");
        CHECK.due("families of a guessed letter", x.families('z'), DodgingHangman.NOT_POSSIBLE);
        CHECK.promise(22, "family");
        CHECK.due("family of a guessed letter", x.family('z', 0, 0), DodgingHangman.NOT_POSSIBLE);
        CHECK.due("family of a guessed letter, nothing else right", x.family('z', 9, 9), DodgingHangman.NOT_POSSIBLE);
        CHECK.promise(23, "spread");
        CHECK.due("spread of a guessed letter", x.spread('z'), DodgingHangman.NOT_POSSIBLE);
        CHECK.promise(24, "having");
        CHECK.due("having of a guessed letter", x.having('z'), 0);
        x.giveUp();
        allNotPossible(x, 'a');
    }

    private static void allNotPossible(DodgingHangman x, int letter) {
        CHECK.promise(21, "families");
        CHECK.due("families() without a running game", x.families(letter), DodgingHangman.NOT_POSSIBLE);
        CHECK.due("families(96) without a running game", x.families(96), DodgingHangman.BAD_VALUE);
        CHECK.promise(22, "family");
        CHECK.due("family() without a running game", x.family(letter, 0, 0), DodgingHangman.NOT_POSSIBLE);
        CHECK.due("family() with all wrong", x.family(123, -1, -1), DodgingHangman.BAD_VALUE);
        CHECK.promise(23, "spread");
        CHECK.due("spread() without a running game", x.spread(letter), DodgingHangman.NOT_POSSIBLE);
        CHECK.due("spread(123) without a running game", x.spread(123), DodgingHangman.BAD_VALUE);
        CHECK.promise(25, "sureLetters");
        CHECK.due("sureLetters() without a running game", x.sureLetters(), DodgingHangman.NOT_POSSIBLE);
        CHECK.promise(26, "bestGuess");
        CHECK.due("bestGuess() without a running game", x.bestGuess(), DodgingHangman.NOT_POSSIBLE);
        CHECK.promise(27, "missesAhead");
        CHECK.due("missesAhead() without a running game", x.missesAhead(), DodgingHangman.NOT_POSSIBLE);
    }

    private static void families() {
        DodgingHangman x = Check.withWords(FOURS);
        x.start(4, 5);
        CHECK.promise(21, "families");
        CHECK.due("families(e)", x.families('e'), 5);
        CHECK.due("families(z)", x.families('z'), 1);
        CHECK.promise(22, "family");
        // ally cool good: a l y c o g d.
        familyIs(x, 'e', 0, 3, 0, 0, 7);
        // beta deal: b t a d l.
        familyIs(x, 'e', 1, 2, 2, 1, 5);
        // flew ibex: f l w i b x.
        familyIs(x, 'e', 2, 2, 4, 5, 6);
        // hope: h o p.
        familyIs(x, 'e', 3, 1, 8, 7, 3);
        // else: l s.
        familyIs(x, 'e', 4, 1, 9, 4, 2);
        CHECK.due("family(e, 5, 0)", x.family('e', 5, 0), DodgingHangman.NO_SUCH);
        CHECK.due("family(e, 5, 4)", x.family('e', 5, 4), DodgingHangman.NO_SUCH);
        CHECK.due("family(e, -1, 0)", x.family('e', -1, 0), DodgingHangman.NO_SUCH);
        CHECK.due("family(e, MAX, 0)", x.family('e', Integer.MAX_VALUE, 0), DodgingHangman.NO_SUCH);
        CHECK.due("family(e, MIN, 0)", x.family('e', Integer.MIN_VALUE, 0), DodgingHangman.NO_SUCH);
        CHECK.due("family(e, 0, -1)", x.family('e', 0, -1), DodgingHangman.BAD_VALUE);
        CHECK.due("family(e, 0, 4)", x.family('e', 0, 4), DodgingHangman.BAD_VALUE);
        CHECK.due("family(e, 4, MAX)", x.family('e', 4, Integer.MAX_VALUE), DodgingHangman.BAD_VALUE);
        x.guess('l');
        // Mask 0 of "l": beta good hope ibex; "e" there: 2 beta, 0 good, 8 hope, 4 ibex.
        CHECK.holds("candidates", Check.candidates(x).equals("beta,good,hope,ibex"));
        familyIs(x, 'e', 0, 1, 0, 6, 3);
        x.guess('g');
        // Left are beta hope ibex, and "l" and "g" are not fresh any more.
        familyIs(x, 'e', 0, 1, 2, 1, 3);
        familyIs(x, 'o', 0, 2, 0, 1, 6);
    }

    private static void familyIs(DodgingHangman x, char letter, int rank, int size, int mask, int first, int fresh) {
        String call = "family(" + letter + ", " + rank + ", ";
        CHECK.due(call + "0)", x.family(letter, rank, 0), size);
        CHECK.due(call + "1)", x.family(letter, rank, 1), mask);
        CHECK.due(call + "2)", x.family(letter, rank, 2), first);
        CHECK.due(call + "3)", x.family(letter, rank, 3), fresh);
    }

    private static void familiesByPolicies() {
        CHECK.promise(22, "family, by the policies");
        DodgingHangman x = Check.withWords(FOURS);
        x.start(4, 5);
        x.setPolicy(2);
        int[] masksByFreshness = {0, 4, 2, 8, 9};
        for (int rank = 0; rank < 5; rank++) {
            CHECK.due("family(e, " + rank + ", 1) by policy 2", x.family('e', rank, 1), masksByFreshness[rank]);
        }
        DodgingHangman y = Check.withWords("abc,abd,cab,dab,dda,fgh,aaa");
        y.start(3, 5);
        y.setPolicy(1);
        int[] masksByMiss = {0, 1, 2, 4, 7};
        for (int rank = 0; rank < 5; rank++) {
            CHECK.due("family(a, " + rank + ", 1) by policy 1", y.family('a', rank, 1), masksByMiss[rank]);
        }
        y.setPolicy(0);
        int[] masksBySize = {1, 2, 0, 4, 7};
        for (int rank = 0; rank < 5; rank++) {
            CHECK.due("family(a, " + rank + ", 1) by policy 0", y.family('a', rank, 1), masksBySize[rank]);
        }
        y.setPolicy(2);
        // Freshness: 1 abc abd: b c d; 2 cab dab: c d b; 4 dda: d; 0 fgh: f g h; 7 aaa: none.
        int[] masksByFresh = {1, 2, 0, 4, 7};
        for (int rank = 0; rank < 5; rank++) {
            CHECK.due("family(a, " + rank + ", 1) by policy 2", y.family('a', rank, 1), masksByFresh[rank]);
        }
    }

    private static void spread() {
        CHECK.promise(23, "spread");
        DodgingHangman x = Check.withWords(FOURS);
        x.start(4, 5);
        // 9 + 4 + 4 + 1 + 1 = 19 of 9 candidates.
        CHECK.due("spread(e)", x.spread('e'), 2111);
        CHECK.due("spread(z)", x.spread('z'), 9000);
        DodgingHangman y = Check.withWords("ab,bc,ca");
        y.start(2, 5);
        CHECK.due("spread(a)", y.spread('a'), 1000);
        CHECK.due("spread(z)", y.spread('z'), 3000);
    }

    private static void having() {
        CHECK.promise(24, "having");
        DodgingHangman x = Check.withWords("aa,ab,ba,cd,abc");
        CHECK.due("having(a) without a game", x.having('a'), DodgingHangman.NOT_POSSIBLE);
        CHECK.due("having(96) without a game", x.having(96), DodgingHangman.BAD_VALUE);
        x.start(2, 5);
        CHECK.due("having(a)", x.having('a'), 3);
        CHECK.due("having(z)", x.having('z'), 0);
        x.guess('c');
        CHECK.due("having(c), guessed and dodged", x.having('c'), 0);
        x.guess('b');
        // "b": 0 aa, 1 ba, 2 ab, of size 1: 0 has the fewest places.
        CHECK.due("having(a)", x.having('a'), 1);
        x.guess('a');
        CHECK.due("status()", x.status(), 2);
        CHECK.due("having(a) after the game", x.having('a'), 1);
        CHECK.due("having(123) after the game", x.having(123), DodgingHangman.BAD_VALUE);
        x.removeWord(0);
        CHECK.due("having(a) without a game", x.having('a'), DodgingHangman.NOT_POSSIBLE);
    }

    private static void sureLetters() {
        CHECK.promise(25, "sureLetters");
        DodgingHangman x = Check.withWords("abz,zab,bza,ef");
        x.start(3, 5);
        CHECK.due("sureLetters()", x.sureLetters(), 1 | 2 | 1 << 25);
        x.guess('b');
        CHECK.due("sureLetters() after b", x.sureLetters(), 1 | 1 << 25);
        x.start(2, 1);
        CHECK.due("sureLetters()", x.sureLetters(), 16 | 32);
        DodgingHangman y = Check.withWords("ab,cd");
        y.start(2, 1);
        CHECK.due("sureLetters(), none", y.sureLetters(), 0);
    }

    private static void bestGuess() {
        CHECK.promise(26, "bestGuess");
        // "a": sizes 1 1 2 2; "b" the same; "c": 4 1 1.
        DodgingHangman x = Check.withWords("aa,ab,ba,bb,ac,ca");
        x.start(2, 20);
        CHECK.due("bestGuess()", x.bestGuess(), 'a');
        // Best families of the same size: "c" shows two places, "a" and "b" one each.
        DodgingHangman y = Check.withWords("abcc");
        y.start(4, 20);
        CHECK.due("bestGuess(), the most places", y.bestGuess(), 'c');
        y.guess('c');
        CHECK.due("bestGuess(), the lowest letter", y.bestGuess(), 'a');
        y.guess('a');
        CHECK.due("bestGuess(), of those that were not guessed", y.bestGuess(), 'b');
        // By policy 1 the family 0 of "b" is the smallest: size 1; of "a": 2; by policy 0 "a": 2, "b": 3.
        DodgingHangman z = Check.withWords("ab,cb,db,aa,ae");
        z.start(2, 20);
        CHECK.due("bestGuess() by policy 0", z.bestGuess(), 'a');
        z.setPolicy(1);
        CHECK.due("bestGuess() by policy 1", z.bestGuess(), 'a');
        DodgingHangman w = Check.withWords("ab,cb,db,eb,ff,fg,hf");
        w.start(2, 20);
        CHECK.due("bestGuess() by policy 0", w.bestGuess(), 'b');
        w.setPolicy(1);
        CHECK.due("bestGuess() by policy 1", w.bestGuess(), 'b');
        w.guess('b');
        CHECK.due("bestGuess() of ff fg hf", w.bestGuess(), 'f');
        CHECK.due("guesses(), as bestGuess() changes nothing", w.guesses(), 1);
    }

    private static void missesAhead() {
        CHECK.promise(27, "missesAhead");
        DodgingHangman x = Check.withWords("ab");
        x.start(2, 1);
        CHECK.due("missesAhead() of one candidate", x.missesAhead(), 0);
        Check.guessWord(x, "ab");
        Check.add(x, "aa,ac,ba,bb,ca");
        x.start(2, 20);
        CHECK.due("missesAhead()", x.missesAhead(), 1);
        CHECK.due("status(), as nothing changes", x.status(), 1);
        CHECK.due("total(3), as nothing changes", x.total(3), 0);
        // Nine words that differ in one letter only: each guess takes away one word more.
        DodgingHangman y = Check.withWords("xa,xb,xc,xd,xe,xf,xg,xh,xi");
        y.start(2, 20);
        CHECK.due("missesAhead(), all words but the last", y.missesAhead(), 8);
        y.start(2, 5);
        CHECK.due("missesAhead(), until the lives end", y.missesAhead(), 5);
        y.guess('a');
        CHECK.due("missesAhead() after one miss", y.missesAhead(), 4);
        y.setPolicy(2);
        CHECK.due("missesAhead() by policy 2", y.missesAhead(), 4);
        CHECK.due("lives()", y.lives(), 4);
        CHECK.due("total(5)", y.total(5), 1);
    }

    private static void totals() {
        CHECK.promise(28, "total");
        DodgingHangman x = Check.withWords("ab,cd,ce,xyz");
        for (int what : new int[] {-1, 7, 8, Integer.MIN_VALUE, Integer.MAX_VALUE}) {
            CHECK.due("total(" + what + ")", x.total(what), DodgingHangman.BAD_VALUE);
        }
        totalsAre(x, "0 0 0 0 0 0 0");
        x.start(2, 3);
        totalsAre(x, "1 0 0 0 0 0 0");
        // "a": mask 0 is cd, ce: a miss, and a dodge of ab.
        x.guess('a');
        totalsAre(x, "1 0 0 1 0 1 1");
        x.guess('z');
        totalsAre(x, "1 0 0 2 0 2 1");
        x.guess('c');
        totalsAre(x, "1 0 0 3 0 2 1");
        Check.guessWord(x, "cd");
        totalsAre(x, "1 0 1 3 1 3 2");
        x.guess('e');
        totalsAre(x, "1 0 1 3 1 3 2");
        x.start(3, 1);
        x.guess('x');
        x.guess('x');
        x.guess('y');
        x.guess('z');
        totalsAre(x, "2 1 1 6 1 3 2");
        x.start(3, 1);
        Check.guessWord(x, "xyz");
        totalsAre(x, "3 2 1 6 2 3 2");
        x.start(3, 1);
        x.giveUp();
        totalsAre(x, "4 2 2 6 2 3 2");
        x.start(3, 1);
        x.start(2, 1);
        totalsAre(x, "6 2 2 6 2 3 2");
        Check.guessWord(x, "zz");
        totalsAre(x, "6 2 3 6 3 4 2");
        x.removeWord(0);
        Check.add(x, "op");
        totalsAre(x, "6 2 3 6 3 4 2");
    }

    private static void totalsAre(DodgingHangman x, String want) {
        String[] due = want.split(" ");
        for (int what = 0; what < 7; what++) {
            CHECK.due("total(" + what + ") of " + want, x.total(what), Integer.parseInt(due[what]));
        }
    }
}
