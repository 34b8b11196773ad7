import java.util.ArrayList;
import java.util.List;
import java.util.Map;
import java.util.TreeMap;

/** Tests of single sentences of DOC.md: each test is told with the words of the document that it is for. */
final class Sentences {
    interface Ask {
        long of(DodgingHangman x);
    }

    /** Integers far from all ranges of the document. */
    static final int[] FAR = {Integer.MIN_VALUE, Integer.MIN_VALUE + 1, -65536, -256, 256, 65536,
        Integer.MAX_VALUE - 1, Integer.MAX_VALUE};

    private final Check check;
    private final boolean tests;
    private final Map<String, List<String>> quotes = new TreeMap<>();
    private String heading = "";

    private Sentences(String name, boolean tests) {
        this.check = new Check(name);
        this.tests = tests;
    }

    static Sentences tested(String name) {
        return new Sentences(name, true);
    }

    /** Gathers the sentences and runs no test. */
    static Sentences gathered() {
        return new Sentences("", false);
    }

    void under(String heading) {
        this.heading = heading;
    }

    /** A sentence that only gives a name, or says no more than the sentences beside it that have tests. */
    void names(String sentence) {
        quotes.computeIfAbsent(heading, h -> new ArrayList<>()).add(sentence);
    }

    void test(String sentence, Runnable test) {
        names(sentence);
        if (tests) {
            check.part(heading + ", \"" + sentence + "\"");
            test.run();
        }
    }

    void due(String call, long got, long want) {
        check.due(call, got, want);
    }

    void same(String what, String got, String want) {
        check.holds(what + " is \"" + got + "\", due is \"" + want + "\"", got.equals(want));
    }

    /** The call gives this answer at each of these places, and leaves everything as it was. */
    void changesNothing(String call, Ask ask, int answer, Scene... scenes) {
        for (Scene scene : scenes) {
            String name = call + " (" + scene.name() + ")";
            check.due(name, ask.of(scene.steps().made()), answer);
            same(name + ", and then", Portrait.of(scene.steps().then(ask::of)), Portrait.of(scene.steps()));
        }
    }

    /** The call is no error at these places, and undo brings back the state from before it. */
    void undone(String call, Ask ask, Scene... scenes) {
        for (Scene scene : scenes) {
            String name = call + " (" + scene.name() + ")";
            check.holds(name + " is no error", ask.of(scene.steps().made()) >= 0);
            Steps after = scene.steps().then(ask::of);
            check.holds(name + " changes something", !Portrait.of(after).equals(Portrait.of(scene.steps())));
            DodgingHangman x = after.made();
            check.holds(name + ", undo() is possible", x.undo() >= 0);
            same(name + ", undo(), and then", Portrait.ofState(after.then(y -> y.undo())),
                    Portrait.ofState(scene.steps()));
        }
    }

    void same(String what, List<String> got, List<String> want) {
        for (int i = 0; i < Math.min(got.size(), want.size()); i++) {
            if (!got.get(i).equals(want.get(i))) {
                same(what, got.get(i), want.get(i));
                return;
            }
        }
        due(what + ", lines of the portrait", got.size(), want.size());
    }

    void differ(String what, Steps one, Steps two) {
        check.holds("portraits tell " + what, !Portrait.of(one).equals(Portrait.of(two)));
    }

    Map<String, List<String>> quotes() {
        return quotes;
    }

    void end() {
        check.end();
    }
}
