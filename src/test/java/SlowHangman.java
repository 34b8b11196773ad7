import java.util.ArrayDeque;
import java.util.ArrayList;
import java.util.Collections;
import java.util.Comparator;
import java.util.Deque;
import java.util.List;
import java.util.Map;
import java.util.TreeMap;
import java.util.TreeSet;

/** The document once more, as its words go, with the Java library and without care for speed or room. */
final class SlowHangman {
    /** A group of words with one mask. */
    private static final class Group {
        int mask;
        final List<String> members = new ArrayList<>();
        int freshness;

        int places() {
            return Integer.bitCount(mask);
        }
    }

    private static final class Shot {
        TreeSet<String> list = new TreeSet<>();
        int policy;
        int status;
        int lives;
        char[] pattern = new char[0];
        List<String> candidates = new ArrayList<>();
        List<Integer> guessed = new ArrayList<>();
        int[] totals = new int[7];

        Shot copy() {
            Shot other = new Shot();
            other.list = new TreeSet<>(list);
            other.policy = policy;
            other.status = status;
            other.lives = lives;
            other.pattern = pattern.clone();
            other.candidates = new ArrayList<>(candidates);
            other.guessed = new ArrayList<>(guessed);
            other.totals = totals.clone();
            return other;
        }

        void noGame() {
            status = 0;
            lives = 0;
            pattern = new char[0];
            candidates.clear();
            guessed.clear();
        }
    }

    private static final String LIST_FORM = "[a-z]{2,8}(,[a-z]{2,8})*";
    private Shot s = new Shot();
    private String text = "";
    private final Deque<Shot> saved = new ArrayDeque<>();

    int type(int code) {
        if (code < 33 || code > 126) {
            return -2;
        }
        if (text.length() == 80) {
            return -4;
        }
        text += (char) code;
        return text.length();
    }

    int clearText() {
        int before = text.length();
        text = "";
        return before;
    }

    int syntaxError() {
        if (text.matches(LIST_FORM)) {
            return -6;
        }
        for (int i = 1; i <= text.length(); i++) {
            if (!canBeContinued(text.substring(0, i))) {
                return i - 1;
            }
        }
        return text.length();
    }

    /** Some list begins so if it can be ended by nothing, by "a" or by "aa". */
    private static boolean canBeContinued(String start) {
        return start.matches(LIST_FORM) || (start + "a").matches(LIST_FORM) || (start + "aa").matches(LIST_FORM);
    }

    private void save() {
        saved.addLast(s.copy());
        if (saved.size() > 6) {
            saved.removeFirst();
        }
    }

    int addWords() {
        if (!text.matches(LIST_FORM)) {
            return -5;
        }
        if (s.status == 1) {
            return -3;
        }
        TreeSet<String> all = new TreeSet<>(s.list);
        all.addAll(List.of(text.split(",")));
        if (all.size() > 30) {
            return -4;
        }
        save();
        int added = all.size() - s.list.size();
        s.list = all;
        s.noGame();
        text = "";
        return added;
    }

    private List<String> inOrder() {
        return new ArrayList<>(s.list);
    }

    int removeWord(int word) {
        if (word < 0 || word >= s.list.size()) {
            return -1;
        }
        if (s.status == 1) {
            return -3;
        }
        save();
        s.list.remove(inOrder().get(word));
        s.noGame();
        return s.list.size();
    }

    int words() {
        return s.list.size();
    }

    int letterOf(int word, int place) {
        if (word < 0 || word >= s.list.size()) {
            return -1;
        }
        String found = inOrder().get(word);
        return place < 0 || place >= found.length() ? -1 : found.charAt(place);
    }

    int setPolicy(int policy) {
        if (policy < 0 || policy > 2) {
            return -2;
        }
        save();
        int before = s.policy;
        s.policy = policy;
        return before;
    }

    int start(int length, int lives) {
        if (length < 2 || length > 8 || lives < 1 || lives > 20) {
            return -2;
        }
        List<String> fitting = new ArrayList<>();
        for (String word : s.list) {
            if (word.length() == length) {
                fitting.add(word);
            }
        }
        if (fitting.isEmpty()) {
            return -3;
        }
        save();
        s.noGame();
        s.status = 1;
        s.lives = lives;
        s.pattern = new char[length];
        s.candidates = fitting;
        s.totals[0]++;
        return fitting.size();
    }

    private static boolean isLetter(int code) {
        return code >= 97 && code <= 122;
    }

    /** The families, the best one first. */
    private List<Group> groups(int letter) {
        Map<Integer, Group> byMask = new TreeMap<>();
        for (String word : s.candidates) {
            int mask = 0;
            for (int k = 0; k < word.length(); k++) {
                mask |= word.charAt(k) == letter ? 1 << k : 0;
            }
            byMask.computeIfAbsent(mask, m -> new Group()).members.add(word);
            byMask.get(mask).mask = mask;
        }
        List<Group> all = new ArrayList<>(byMask.values());
        for (Group group : all) {
            TreeSet<Integer> fresh = new TreeSet<>();
            for (String word : group.members) {
                word.chars().forEach(fresh::add);
            }
            fresh.removeAll(s.guessed);
            fresh.remove(letter);
            group.freshness = fresh.size();
        }
        Comparator<Group> bySize = Comparator.comparingInt((Group g) -> -g.members.size())
                .thenComparingInt(Group::places).thenComparingInt(g -> g.mask);
        Comparator<Group> byMiss = Comparator.comparingInt((Group g) -> g.mask == 0 ? 0 : 1);
        Comparator<Group> byFresh = Comparator.comparingInt((Group g) -> -g.freshness);
        Collections.sort(all, s.policy == 0 ? bySize : (s.policy == 1 ? byMiss : byFresh).thenComparing(bySize));
        return all;
    }

    private void miss(boolean dodge) {
        s.totals[5]++;
        s.totals[6] += dodge ? 1 : 0;
        s.lives--;
        if (s.lives == 0) {
            s.status = 3;
            s.totals[2]++;
        }
    }

    private int doGuess(int letter) {
        int having = having(letter);
        Group best = groups(letter).get(0);
        s.guessed.add(letter);
        s.totals[3]++;
        s.candidates = best.members;
        if (best.mask == 0) {
            miss(having > 0);
        }
        boolean hidden = false;
        for (int k = 0; k < s.pattern.length; k++) {
            if ((best.mask >> k & 1) == 1) {
                s.pattern[k] = (char) letter;
            }
            hidden |= s.pattern[k] == 0;
        }
        if (!hidden) {
            s.status = 2;
            s.totals[1]++;
        }
        return best.places();
    }

    int guess(int letter) {
        if (!isLetter(letter)) {
            return -2;
        }
        if (s.status != 1) {
            return -3;
        }
        if (s.guessed.contains(letter)) {
            return -6;
        }
        save();
        return doGuess(letter);
    }

    int guessWord() {
        if (!text.matches("[a-z]{2,8}")) {
            return -5;
        }
        if (s.status != 1 || text.length() != s.pattern.length) {
            return -3;
        }
        save();
        s.totals[4]++;
        if (s.candidates.equals(List.of(text))) {
            s.status = 2;
            s.totals[1]++;
            s.pattern = text.toCharArray();
        } else {
            miss(s.candidates.remove(text));
        }
        text = "";
        return s.status == 2 ? 1 : 0;
    }

    int giveUp() {
        if (s.status != 1) {
            return -3;
        }
        save();
        s.status = 3;
        s.totals[2]++;
        return candidate(0);
    }

    int status() {
        return s.status;
    }

    int lives() {
        return s.lives;
    }

    int shown(int place) {
        if (place < 0 || place >= s.pattern.length) {
            return -1;
        }
        return s.pattern[place] == 0 ? -6 : s.pattern[place];
    }

    int candidates() {
        return s.candidates.size();
    }

    int candidate(int index) {
        return index < 0 || index >= s.candidates.size() ? -1 : inOrder().indexOf(s.candidates.get(index));
    }

    int guesses() {
        return s.guessed.size();
    }

    int guessAt(int index) {
        return index < 0 || index >= s.guessed.size() ? -1 : s.guessed.get(index);
    }

    private int fault(int letter) {
        return !isLetter(letter) ? -2 : s.status != 1 || s.guessed.contains(letter) ? -3 : 0;
    }

    int families(int letter) {
        return fault(letter) < 0 ? fault(letter) : groups(letter).size();
    }

    int family(int letter, int rank, int what) {
        if (fault(letter) < 0) {
            return fault(letter);
        }
        List<Group> all = groups(letter);
        if (rank < 0 || rank >= all.size()) {
            return -1;
        }
        Group group = all.get(rank);
        int[] answers = {group.members.size(), group.mask, inOrder().indexOf(group.members.get(0)), group.freshness};
        return what < 0 || what > 3 ? -2 : answers[what];
    }

    int spread(int letter) {
        if (fault(letter) < 0) {
            return fault(letter);
        }
        int sum = 0;
        for (Group group : groups(letter)) {
            sum += group.members.size() * group.members.size();
        }
        return 1000 * sum / s.candidates.size();
    }

    int having(int letter) {
        if (!isLetter(letter)) {
            return -2;
        }
        return s.status == 0 ? -3 : (int) s.candidates.stream().filter(w -> w.indexOf(letter) >= 0).count();
    }

    int sureLetters() {
        if (s.status != 1) {
            return -3;
        }
        int set = 0;
        for (int letter = 97; letter <= 122; letter++) {
            boolean sure = !s.guessed.contains(letter) && having(letter) == s.candidates.size();
            set |= sure ? 1 << letter - 97 : 0;
        }
        return set;
    }

    int bestGuess() {
        if (s.status != 1) {
            return -3;
        }
        List<int[]> rows = new ArrayList<>();
        for (int letter = 97; letter <= 122; letter++) {
            if (!s.guessed.contains(letter)) {
                Group best = groups(letter).get(0);
                rows.add(new int[] {best.members.size(), -best.places(), letter});
            }
        }
        if (rows.isEmpty()) {
            return -6;
        }
        rows.sort((a, b) -> java.util.Arrays.compare(a, b));
        return rows.get(0)[2];
    }

    int missesAhead() {
        if (s.status != 1) {
            return -3;
        }
        Shot present = s;
        s = present.copy();
        while (s.status == 1) {
            doGuess(bestGuess());
        }
        int misses = s.totals[5] - present.totals[5];
        s = present;
        return misses;
    }

    int total(int what) {
        return what < 0 || what > 6 ? -2 : s.totals[what];
    }

    int undo() {
        if (saved.isEmpty()) {
            return -3;
        }
        s = saved.removeLast();
        return saved.size();
    }

    long digest() {
        List<Integer> values = new ArrayList<>();
        values.add(words());
        for (String word : s.list) {
            values.add(word.length());
            word.chars().forEach(values::add);
        }
        values.add(status());
        values.add(lives());
        for (int k = 0; k < s.pattern.length; k++) {
            values.add(shown(k));
        }
        values.add(candidates());
        for (int i = 0; i < s.candidates.size(); i++) {
            values.add(candidate(i));
        }
        values.add(guesses());
        values.addAll(s.guessed);
        if (s.status == 1) {
            values.add(sureLetters());
            values.add(bestGuess());
        }
        for (int total : s.totals) {
            values.add(total);
        }
        long hash = 131;
        for (int value : values) {
            hash = 31 * hash + value;
        }
        return hash;
    }
}
