/**
 * A hangman program that chooses no word: it keeps all words that agree with what it has told, and
 * answers each guess so that the family of words that its policy likes best remains.
 *
 * All rows are made with the object and used again, so that no call makes an object of its own.
 */
public final class DodgingHangman {
    public static final int NO_SUCH = -1;
    public static final int BAD_VALUE = -2;
    public static final int NOT_POSSIBLE = -3;
    public static final int LIMIT = -4;
    public static final int BAD_TEXT = -5;
    public static final int NONE = -6;

    private static final int MOST_WORDS = 30;
    private static final int SHORTEST_WORD = 2;
    private static final int LONGEST_WORD = 8;
    private static final int MOST_LIVES = 20;
    private static final int MOST_SIGNS = 80;
    private static final int FIRST_SIGN = 33;
    private static final int LAST_SIGN = 126;
    private static final int LETTERS = 26;
    private static final int FIRST_LETTER = 97;
    private static final int COMMA = 44;
    private static final int MOST_SAVED = 6;
    private static final int FINE = 0;

    private static final int NO_GAME = 0;
    private static final int RUNNING = 1;
    private static final int WON = 2;
    private static final int LOST = 3;

    private static final int SIZE_FIRST = 0;
    private static final int MISS_FIRST = 1;
    private static final int FRESH_FIRST = 2;

    private static final int GAMES_STARTED = 0;
    private static final int GAMES_WON = 1;
    private static final int GAMES_LOST = 2;
    private static final int LETTERS_GUESSED = 3;
    private static final int WORDS_GUESSED = 4;
    private static final int MISSES = 5;
    private static final int DODGES = 6;
    private static final int TOTALS = 7;

    private final Text text = new Text();
    private final State now = new State();
    private final SavedStates saved = new SavedStates();
    // What may be given up again, or is only tried, happens in the draft and never in the present state.
    private final State draft = new State();
    private final Families split = new Families();

    public DodgingHangman() {
    }

    // ---- text

    public int type(int code) {
        if (code < FIRST_SIGN || code > LAST_SIGN) {
            return BAD_VALUE;
        }
        return text.append((char) code) ? text.length : LIMIT;
    }

    public int clearText() {
        int before = text.length;
        text.empty();
        return before;
    }

    public int syntaxError() {
        return text.firstError();
    }

    // ---- list of words

    public int addWords() {
        if (text.firstError() != NONE) {
            return BAD_TEXT;
        }
        if (now.isRunning()) {
            return NOT_POSSIBLE;
        }
        draft.copyFrom(now);
        if (!addTextTo(draft)) {
            return LIMIT;
        }
        int added = draft.wordCount - now.wordCount;
        saved.push(now);
        draft.endWithoutGame();
        now.copyFrom(draft);
        text.empty();
        return added;
    }

    public int removeWord(int word) {
        if (!now.hasWord(word)) {
            return NO_SUCH;
        }
        if (now.isRunning()) {
            return NOT_POSSIBLE;
        }
        saved.push(now);
        now.remove(word);
        now.endWithoutGame();
        return now.wordCount;
    }

    public int words() {
        return now.wordCount;
    }

    public int letterOf(int word, int place) {
        int letter = Word.letterAt(now.wordAt(word), place);
        return letter == Word.NO_LETTER ? NO_SUCH : letter;
    }

    // ---- game

    public int setPolicy(int policy) {
        if (policy < SIZE_FIRST || policy > FRESH_FIRST) {
            return BAD_VALUE;
        }
        int before = now.policy;
        saved.push(now);
        now.policy = policy;
        return before;
    }

    public int start(int length, int lives) {
        if (length < SHORTEST_WORD || length > LONGEST_WORD || lives < 1 || lives > MOST_LIVES) {
            return BAD_VALUE;
        }
        int fitting = now.wordsOfLength(length);
        if (fitting == 0) {
            return NOT_POSSIBLE;
        }
        saved.push(now);
        now.begin(length, lives, fitting);
        return Integer.bitCount(fitting);
    }

    public int guess(int letter) {
        if (!isLetter(letter)) {
            return BAD_VALUE;
        }
        if (!now.isRunning()) {
            return NOT_POSSIBLE;
        }
        if (now.wasGuessed(letter)) {
            return NONE;
        }
        saved.push(now);
        return play(now, letter);
    }

    public int guessWord() {
        if (text.firstError() != NONE || text.readWords() != 1) {
            return BAD_TEXT;
        }
        long word = text.wordRead(0);
        if (!now.isRunning() || Word.lengthOf(word) != now.length) {
            return NOT_POSSIBLE;
        }
        saved.push(now);
        now.takeWord(word);
        text.empty();
        return now.status == WON ? 1 : 0;
    }

    public int giveUp() {
        if (!now.isRunning()) {
            return NOT_POSSIBLE;
        }
        saved.push(now);
        now.lose();
        return memberAt(now.candidates, 0);
    }

    public int status() {
        return now.status;
    }

    public int lives() {
        return now.lives;
    }

    public int shown(int place) {
        if (place < 0 || place >= now.length) {
            return NO_SUCH;
        }
        int letter = Word.letterAt(now.pattern, place);
        return letter == Word.NO_LETTER ? NONE : letter;
    }

    public int candidates() {
        return Integer.bitCount(now.candidates);
    }

    public int candidate(int index) {
        return memberAt(now.candidates, index);
    }

    public int guesses() {
        return now.guessCount;
    }

    public int guessAt(int index) {
        return now.guessedAt(index);
    }

    // ---- what the guesses would bring; nothing changes

    public int families(int letter) {
        int fault = faultOfAsking(letter);
        if (fault != FINE) {
            return fault;
        }
        split.make(now, letter);
        return split.count;
    }

    public int family(int letter, int rank, int what) {
        int fault = faultOfAsking(letter);
        if (fault != FINE) {
            return fault;
        }
        split.make(now, letter);
        int family = split.ranked(rank);
        if (!split.has(family)) {
            return NO_SUCH;
        }
        switch (what) {
            case 0:
                return split.sizeOf(family);
            case 1:
                return split.maskOf(family);
            case 2:
                return memberAt(split.membersOf(family), 0);
            case 3:
                return split.freshnessOf(family);
            default:
                return BAD_VALUE;
        }
    }

    public int spread(int letter) {
        int fault = faultOfAsking(letter);
        if (fault != FINE) {
            return fault;
        }
        split.make(now, letter);
        int all = candidates();
        return all == 0 ? 0 : 1000 * split.squares() / all;
    }

    public int having(int letter) {
        if (!isLetter(letter)) {
            return BAD_VALUE;
        }
        if (now.status == NO_GAME) {
            return NOT_POSSIBLE;
        }
        return now.candidatesWith(letter);
    }

    public int sureLetters() {
        return now.isRunning() ? now.lettersOfAll() & ~now.guessed : NOT_POSSIBLE;
    }

    public int bestGuess() {
        return now.isRunning() ? bestLetter(now) : NOT_POSSIBLE;
    }

    public int missesAhead() {
        if (!now.isRunning()) {
            return NOT_POSSIBLE;
        }
        draft.copyFrom(now);
        for (int i = 0; i < LETTERS && draft.isRunning(); i++) {
            int letter = bestLetter(draft);
            if (letter != NONE) {
                play(draft, letter);
            }
        }
        return draft.totalOf(MISSES) - now.totalOf(MISSES);
    }

    public int total(int what) {
        return what < 0 || what >= TOTALS ? BAD_VALUE : now.totalOf(what);
    }

    // ---- undo

    public int undo() {
        return saved.popInto(now) ? saved.count : NOT_POSSIBLE;
    }

    public long digest() {
        long hash = hashOfGame(hashOfList(131));
        if (now.isRunning()) {
            hash = mixed(mixed(hash, sureLetters()), bestGuess());
        }
        for (int what = 0; what < TOTALS; what++) {
            hash = mixed(hash, total(what));
        }
        return hash;
    }

    private long hashOfList(long start) {
        long hash = mixed(start, words());
        for (int n = 0; n < now.wordCount; n++) {
            int length = Word.lengthOf(now.wordAt(n));
            hash = mixed(hash, length);
            for (int place = 0; place < length; place++) {
                hash = mixed(hash, letterOf(n, place));
            }
        }
        return hash;
    }

    private long hashOfGame(long start) {
        long hash = mixed(mixed(start, status()), lives());
        for (int place = 0; place < now.length; place++) {
            hash = mixed(hash, shown(place));
        }
        int candidates = candidates();
        hash = mixed(hash, candidates);
        for (int i = 0; i < candidates; i++) {
            hash = mixed(hash, candidate(i));
        }
        hash = mixed(hash, guesses());
        for (int i = 0; i < now.guessCount; i++) {
            hash = mixed(hash, guessAt(i));
        }
        return hash;
    }

    private static long mixed(long hash, long value) {
        return 31 * hash + value;
    }

    /** Answers false when the list has no room for all; what it holds then is of no use. */
    private boolean addTextTo(State state) {
        int read = text.readWords();
        for (int i = 0; i < read; i++) {
            long word = text.wordRead(i);
            if (!state.isInList(word) && !state.insert(word)) {
                return false;
            }
        }
        return true;
    }

    private int play(State state, int letter) {
        split.make(state, letter);
        int best = split.best();
        int mask = split.maskOf(best);
        state.takeLetter(letter, mask, split.membersOf(best));
        return Integer.bitCount(mask);
    }

    private int bestLetter(State state) {
        int bestLetter = NONE;
        int leastSize = 0;
        int mostPlaces = 0;
        for (int letter = FIRST_LETTER; letter < FIRST_LETTER + LETTERS; letter++) {
            if (!state.wasGuessed(letter)) {
                split.make(state, letter);
                int family = split.best();
                int size = split.sizeOf(family);
                int places = Integer.bitCount(split.maskOf(family));
                if (bestLetter == NONE || size < leastSize || (size == leastSize && places > mostPlaces)) {
                    bestLetter = letter;
                    leastSize = size;
                    mostPlaces = places;
                }
            }
        }
        return bestLetter;
    }

    private int faultOfAsking(int letter) {
        if (!isLetter(letter)) {
            return BAD_VALUE;
        }
        return now.isRunning() && !now.wasGuessed(letter) ? FINE : NOT_POSSIBLE;
    }

    private static boolean isLetter(int code) {
        return code >= FIRST_LETTER && code < FIRST_LETTER + LETTERS;
    }

    /** The bit of a letter in a set of letters. */
    private static int bitOf(int letter) {
        return isLetter(letter) ? 1 << letter - FIRST_LETTER : 0;
    }

    /** A word number of a set of words, counted in the order of the list. */
    private static int memberAt(int set, int index) {
        int passed = 0;
        for (int n = 0; n < MOST_WORDS; n++) {
            if ((set >> n & 1) != 0) {
                if (passed == index) {
                    return n;
                }
                passed++;
            }
        }
        return NO_SUCH;
    }

    /**
     * Words stand in a long, five bits a letter, the first letter highest and 0 where there is none:
     * so the order of the numbers is the order of the alphabet, and a pattern can leave places hidden.
     */
    private static final class Word {
        static final long EMPTY = 0;
        static final int NO_LETTER = 0;
        static final int BITS = 5;
        static final int CODE_BEFORE_FIRST = FIRST_LETTER - 1;

        static int letterAt(long word, int place) {
            if (place < 0 || place >= LONGEST_WORD) {
                return NO_LETTER;
            }
            int number = (int) (word >> shiftOf(place)) & 31;
            return number == 0 ? NO_LETTER : CODE_BEFORE_FIRST + number;
        }

        static long withLetter(long word, int place, int letter) {
            if (place < 0 || place >= LONGEST_WORD || !isLetter(letter)) {
                return word;
            }
            return word | (long) (letter - CODE_BEFORE_FIRST) << shiftOf(place);
        }

        static int shiftOf(int place) {
            return BITS * (LONGEST_WORD - 1 - place);
        }

        /** The number of letters: of a pattern, too, that has hidden places between them. */
        static int lengthOf(long word) {
            int length = 0;
            for (int place = 0; place < LONGEST_WORD; place++) {
                if (letterAt(word, place) != NO_LETTER) {
                    length++;
                }
            }
            return length;
        }

        static int maskOf(long word, int letter) {
            int mask = 0;
            for (int place = 0; place < LONGEST_WORD; place++) {
                if (letterAt(word, place) == letter) {
                    mask |= 1 << place;
                }
            }
            return mask;
        }

        static int lettersOf(long word) {
            int letters = 0;
            for (int place = 0; place < LONGEST_WORD; place++) {
                letters |= bitOf(letterAt(word, place));
            }
            return letters;
        }
    }

    /** The typed text, and the words that were last read from it. */
    private static final class Text {
        // The shortest words with their commas fill the text with most words.
        static final int MOST_READ = (MOST_SIGNS + 1) / (SHORTEST_WORD + 1);

        private final char[] signs = new char[MOST_SIGNS];
        private final long[] wordsRead = new long[MOST_READ];
        private int length;

        boolean append(char sign) {
            if (length < 0 || length >= MOST_SIGNS) {
                return false;
            }
            signs[length] = sign;
            length++;
            return true;
        }

        void empty() {
            length = 0;
        }

        int signAt(int index) {
            return index >= 0 && index < MOST_SIGNS ? signs[index] : 0;
        }

        int firstError() {
            int letters = 0;
            for (int i = 0; i < length; i++) {
                int sign = signAt(i);
                if (sign == COMMA && letters >= SHORTEST_WORD) {
                    letters = 0;
                } else if (isLetter(sign) && letters < LONGEST_WORD) {
                    letters++;
                } else {
                    return i;
                }
            }
            return letters < SHORTEST_WORD ? length : NONE;
        }

        /** Reads the words of a text that is known to be a word list, and answers their number. */
        int readWords() {
            int read = 0;
            int place = 0;
            long word = Word.EMPTY;
            for (int i = 0; i < length; i++) {
                int sign = signAt(i);
                if (sign == COMMA) {
                    read = keepRead(read, word);
                    place = 0;
                    word = Word.EMPTY;
                } else {
                    word = Word.withLetter(word, place, sign);
                    place++;
                }
            }
            return keepRead(read, word);
        }

        private int keepRead(int read, long word) {
            if (read < 0 || read >= MOST_READ) {
                return read;
            }
            wordsRead[read] = word;
            return read + 1;
        }

        long wordRead(int index) {
            return index >= 0 && index < MOST_READ ? wordsRead[index] : Word.EMPTY;
        }
    }

    /** All that undo restores. Sets of words and of letters are numbers with a bit for each. */
    private static final class State {
        private final long[] list = new long[MOST_WORDS];
        private final int[] lettersInOrder = new int[LETTERS];
        private final int[] totals = new int[TOTALS];
        private int wordCount;
        private int policy;
        private int status;
        private int length;
        private int lives;
        private int candidates;
        private int guessed;
        private int guessCount;
        private long pattern;

        void copyFrom(State other) {
            System.arraycopy(other.list, 0, list, 0, MOST_WORDS);
            System.arraycopy(other.lettersInOrder, 0, lettersInOrder, 0, LETTERS);
            System.arraycopy(other.totals, 0, totals, 0, TOTALS);
            wordCount = other.wordCount;
            policy = other.policy;
            status = other.status;
            length = other.length;
            lives = other.lives;
            candidates = other.candidates;
            guessed = other.guessed;
            guessCount = other.guessCount;
            pattern = other.pattern;
        }

        boolean hasWord(int number) {
            return number >= 0 && number < wordCount && number < MOST_WORDS;
        }

        long wordAt(int number) {
            return hasWord(number) ? list[number] : Word.EMPTY;
        }

        boolean isInList(long word) {
            return numberOf(word) != NO_SUCH;
        }

        private int numberOf(long word) {
            for (int n = 0; n < wordCount; n++) {
                if (wordAt(n) == word) {
                    return n;
                }
            }
            return NO_SUCH;
        }

        /** Puts a new word at its place of the order; answers false if the list is full. */
        boolean insert(long word) {
            if (wordCount < 0 || wordCount >= MOST_WORDS) {
                return false;
            }
            int number = wordCount;
            while (number > 0 && list[number - 1] > word) {
                list[number] = list[number - 1];
                number--;
            }
            list[number] = word;
            wordCount++;
            return true;
        }

        void remove(int number) {
            if (!hasWord(number)) {
                return;
            }
            for (int n = number; n < MOST_WORDS - 1; n++) {
                list[n] = list[n + 1];
            }
            wordCount--;
        }

        int wordsOfLength(int wanted) {
            int set = 0;
            for (int n = 0; n < wordCount; n++) {
                if (Word.lengthOf(wordAt(n)) == wanted) {
                    set |= 1 << n;
                }
            }
            return set;
        }

        boolean isRunning() {
            return status == RUNNING;
        }

        boolean isCandidate(int number) {
            return hasWord(number) && (candidates >> number & 1) != 0;
        }

        boolean wasGuessed(int letter) {
            return (guessed & bitOf(letter)) != 0;
        }

        int guessedAt(int index) {
            return index >= 0 && index < guessCount && index < LETTERS ? lettersInOrder[index] : NO_SUCH;
        }

        int candidatesWith(int letter) {
            int found = 0;
            for (int n = 0; n < wordCount; n++) {
                if (isCandidate(n) && Word.maskOf(wordAt(n), letter) != 0) {
                    found++;
                }
            }
            return found;
        }

        int lettersOfAll() {
            int letters = (1 << LETTERS) - 1;
            for (int n = 0; n < wordCount; n++) {
                if (isCandidate(n)) {
                    letters &= Word.lettersOf(wordAt(n));
                }
            }
            return letters;
        }

        int totalOf(int what) {
            return what >= 0 && what < TOTALS ? totals[what] : 0;
        }

        private void count(int what) {
            if (what >= 0 && what < TOTALS) {
                totals[what]++;
            }
        }

        void begin(int gameLength, int gameLives, int fitting) {
            endWithoutGame();
            status = RUNNING;
            length = gameLength;
            lives = gameLives;
            candidates = fitting;
            count(GAMES_STARTED);
        }

        void endWithoutGame() {
            status = NO_GAME;
            length = 0;
            lives = 0;
            candidates = 0;
            guessed = 0;
            guessCount = 0;
            pattern = Word.EMPTY;
        }

        void takeLetter(int letter, int mask, int family) {
            noteGuess(letter);
            boolean othersHaveIt = family != candidates;
            candidates = family;
            if (mask == 0) {
                miss(othersHaveIt);
                return;
            }
            for (int place = 0; place < length; place++) {
                if ((mask >> place & 1) != 0) {
                    pattern = Word.withLetter(pattern, place, letter);
                }
            }
            if (Word.lengthOf(pattern) == length) {
                win();
            }
        }

        private void noteGuess(int letter) {
            if (guessCount >= 0 && guessCount < LETTERS) {
                lettersInOrder[guessCount] = letter;
                guessCount++;
            }
            guessed |= bitOf(letter);
            count(LETTERS_GUESSED);
        }

        void takeWord(long word) {
            count(WORDS_GUESSED);
            int number = numberOf(word);
            int itself = isCandidate(number) ? 1 << number : 0;
            if (itself != 0 && itself == candidates) {
                pattern = word;
                win();
            } else {
                candidates &= ~itself;
                miss(itself != 0);
            }
        }

        private void miss(boolean isDodge) {
            count(MISSES);
            if (isDodge) {
                count(DODGES);
            }
            lives--;
            if (lives == 0) {
                lose();
            }
        }

        private void win() {
            status = WON;
            count(GAMES_WON);
        }

        void lose() {
            status = LOST;
            count(GAMES_LOST);
        }
    }

    /** The families of the candidates of a state for one letter, in no order. */
    private static final class Families {
        private final int[] masks = new int[MOST_WORDS];
        private final int[] members = new int[MOST_WORDS];
        private final int[] freshLetters = new int[MOST_WORDS];
        private int count;
        private int policy;

        void make(State state, int letter) {
            count = 0;
            policy = state.policy;
            int stale = state.guessed | bitOf(letter);
            for (int n = 0; n < state.wordCount; n++) {
                if (state.isCandidate(n)) {
                    long word = state.wordAt(n);
                    put(n, Word.maskOf(word, letter), Word.lettersOf(word) & ~stale);
                }
            }
        }

        private void put(int number, int mask, int fresh) {
            int family = 0;
            while (family < count && maskOf(family) != mask) {
                family++;
            }
            if (family < 0 || family >= MOST_WORDS) {
                return;
            }
            if (family == count) {
                masks[family] = mask;
                members[family] = 0;
                freshLetters[family] = 0;
                count++;
            }
            members[family] |= 1 << number;
            freshLetters[family] |= fresh;
        }

        boolean has(int family) {
            return family >= 0 && family < count && family < MOST_WORDS;
        }

        int maskOf(int family) {
            return has(family) ? masks[family] : 0;
        }

        int membersOf(int family) {
            return has(family) ? members[family] : 0;
        }

        int sizeOf(int family) {
            return has(family) ? Integer.bitCount(members[family]) : 0;
        }

        int freshnessOf(int family) {
            return has(family) ? Integer.bitCount(freshLetters[family]) : 0;
        }

        int squares() {
            int sum = 0;
            for (int family = 0; family < count; family++) {
                sum += sizeOf(family) * sizeOf(family);
            }
            return sum;
        }

        /** The family with the rank 0: guesses need no other, so one pass is enough. */
        int best() {
            int best = count > 0 ? 0 : NO_SUCH;
            for (int family = 1; family < count; family++) {
                if (isBetter(family, best)) {
                    best = family;
                }
            }
            return best;
        }

        /** Masks differ, so no two families share a rank. */
        int ranked(int rank) {
            for (int family = 0; family < count; family++) {
                if (betterThan(family) == rank) {
                    return family;
                }
            }
            return NO_SUCH;
        }

        private int betterThan(int family) {
            int better = 0;
            for (int other = 0; other < count; other++) {
                if (isBetter(other, family)) {
                    better++;
                }
            }
            return better;
        }

        private boolean isBetter(int one, int two) {
            if (policy == MISS_FIRST && (maskOf(one) == 0) != (maskOf(two) == 0)) {
                return maskOf(one) == 0;
            }
            if (policy == FRESH_FIRST && freshnessOf(one) != freshnessOf(two)) {
                return freshnessOf(one) > freshnessOf(two);
            }
            if (sizeOf(one) != sizeOf(two)) {
                return sizeOf(one) > sizeOf(two);
            }
            int placesOfOne = Integer.bitCount(maskOf(one));
            int placesOfTwo = Integer.bitCount(maskOf(two));
            return placesOfOne != placesOfTwo ? placesOfOne < placesOfTwo : maskOf(one) < maskOf(two);
        }
    }

    /** A ring: the state that is saved last takes the place of the oldest when all places are taken. */
    private static final class SavedStates {
        private final State[] ring = new State[MOST_SAVED];
        private int next;
        private int count;

        void push(State state) {
            if (next < 0 || next >= MOST_SAVED) {
                return;
            }
            State place = ring[next];
            if (place == null) {
                place = new State();
                ring[next] = place;
            }
            place.copyFrom(state);
            next = next == MOST_SAVED - 1 ? 0 : next + 1;
            count = Math.min(count + 1, MOST_SAVED);
        }

        /** Answers false if nothing is saved. */
        boolean popInto(State state) {
            int last = next == 0 ? MOST_SAVED - 1 : next - 1;
            if (count == 0 || last < 0 || last >= MOST_SAVED) {
                return false;
            }
            State place = ring[last];
            if (place == null) {
                return false;
            }
            state.copyFrom(place);
            next = last;
            count--;
            return true;
        }
    }
}
