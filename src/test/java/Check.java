/** What the tests share: it counts the answers that are not due, and types texts. */
final class Check {
    private final String name;
    private String part = "";
    private int checks = 0;
    private int wrong = 0;

    Check(String name) {
        this.name = name;
    }

    /** Names the promise that the next checks are for. */
    void promise(int number, String what) {
        part("promise " + number + " (" + what + ")");
    }

    void part(String name) {
        part = name;
    }

    void due(String call, long got, long want) {
        checks++;
        if (got != want) {
            wrong++;
            System.out.println(name + ": " + part + ": " + call + " answered " + got + ", due is " + want);
        }
    }

    void holds(String what, boolean is) {
        checks++;
        if (!is) {
            wrong++;
            System.out.println(name + ": " + part + ": does not hold: " + what);
        }
    }

    void end() {
        System.out.println(name + ": " + checks + " checks, " + wrong + " wrong");
        if (wrong != 0) {
            System.exit(1);
        }
    }

    static void type(DodgingHangman x, String text) {
        for (int i = 0; i < text.length(); i++) {
            x.type(text.charAt(i));
        }
    }

    /** A new object with these words in its list. */
    static DodgingHangman withWords(String text) {
        DodgingHangman x = new DodgingHangman();
        add(x, text);
        return x;
    }

    static int add(DodgingHangman x, String text) {
        type(x, text);
        return x.addWords();
    }

    static int guessWord(DodgingHangman x, String word) {
        type(x, word);
        return x.guessWord();
    }

    static String wordAt(DodgingHangman x, int number) {
        StringBuilder word = new StringBuilder();
        int letter = x.letterOf(number, 0);
        for (int place = 1; letter >= 0; place++) {
            word.append((char) letter);
            letter = x.letterOf(number, place);
        }
        return word.toString();
    }

    static String list(DodgingHangman x) {
        StringBuilder all = new StringBuilder();
        for (int number = 0; number < x.words(); number++) {
            all.append(number == 0 ? "" : ",").append(wordAt(x, number));
        }
        return all.toString();
    }

    /** The pattern with "." at hidden places; empty without a game. */
    static String pattern(DodgingHangman x) {
        StringBuilder all = new StringBuilder();
        for (int place = 0; x.shown(place) != DodgingHangman.NO_SUCH; place++) {
            all.append(x.shown(place) == DodgingHangman.NONE ? '.' : (char) x.shown(place));
        }
        return all.toString();
    }

    static String candidates(DodgingHangman x) {
        StringBuilder all = new StringBuilder();
        for (int i = 0; x.candidate(i) >= 0; i++) {
            all.append(i == 0 ? "" : ",").append(wordAt(x, x.candidate(i)));
        }
        return all.toString();
    }

    static String guessed(DodgingHangman x) {
        StringBuilder all = new StringBuilder();
        for (int i = 0; x.guessAt(i) >= 0; i++) {
            all.append((char) x.guessAt(i));
        }
        return all.toString();
    }
}
