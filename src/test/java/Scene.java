/** Places where a call may find an object: states of the game, each with a text and with saved states. */
record Scene(String name, Steps steps) {
    private static final String WORDS = "ab,abc,abd,bad,cab,dab,eel,zz";
    /** As many as the list can have: of two letters, but for one of eight. */
    static final String[] THIRTY = {"aa,ab,ac,ad,ae,af,ag,ah,ai,aj,ak,al,am,an,ao", "ba,bb,bc,bd,be,bf,bg,bh,bi,bj,bk,"
            + "bl,bm,bn,zyxwvuts"};

    // Six states are saved at least, the text is "no", the policy is 2, and letters and a word were guessed: what a
    // refused call would change, if it changed anything, differs from what stands in a new object.
    private static final Steps TO_LIST = x -> {
        for (String part : new String[] {"ab", "zz", "eel,dab", WORDS}) {
            Check.add(x, part);
        }
        x.setPolicy(1);
        x.setPolicy(2);
    };
    private static final Steps TO_GAME = TO_LIST.then(x -> {
        x.start(3, 6);
        x.guess('q');
        x.guess('e');
        x.guess('b');
        Check.guessWord(x, "xyz");
    });
    private static final Steps TEXT = x -> Check.type(x, "no");

    static final Scene NEW = new Scene("new object", x -> { });
    static final Scene NO_GAME = new Scene("no game", TO_LIST.then(TEXT));
    static final Scene RUNNING = new Scene("game is running", TO_GAME.then(TEXT));
    static final Scene WON = new Scene("game is won", TO_GAME.then(x -> Check.guessWord(x, "abc"))
            .then(x -> Check.guessWord(x, "abd")).then(TEXT));
    static final Scene LOST = new Scene("game is lost", TO_GAME.then(x -> {
        x.guess('y');
        x.guess('w');
        x.guess('v');
    }).then(TEXT));
    static final Scene GIVEN_UP = new Scene("game is given up", TO_GAME.then(x -> x.giveUp()).then(TEXT));
    static final Scene FULL_LIST = new Scene("full list", x -> {
        Check.add(x, THIRTY[0]);
        Check.add(x, THIRTY[1]);
    });

    static final Scene[] NOT_RUNNING = {NEW, NO_GAME, WON, LOST, GIVEN_UP};
    static final Scene[] WITHOUT_GAME = {NEW, NO_GAME};
    static final Scene[] OVER = {WON, LOST, GIVEN_UP};
    static final Scene[] ALL = {NEW, NO_GAME, RUNNING, WON, LOST, GIVEN_UP, FULL_LIST};

    /** The same place with another text. */
    Scene withText(String text) {
        return new Scene(name + ", text \"" + text + "\"", steps.then(x -> {
            x.clearText();
            Check.type(x, text);
        }));
    }

    Scene and(String what, Steps more) {
        return new Scene(name + ", " + what, steps.then(more));
    }

    static Scene[] withText(String text, Scene... scenes) {
        Scene[] all = new Scene[scenes.length];
        for (int i = 0; i < all.length; i++) {
            all[i] = scenes[i].withText(text);
        }
        return all;
    }
}
