import java.io.IOException;
import java.nio.file.Files;
import java.nio.file.Path;
import java.util.List;

/** The example of README.md: each call there answers what stands behind it; it is run in the project's folder. */
public final class ReadmeTest {
    private static final Check CHECK = new Check("ReadmeTest");

    private record Told(String call, Sentences.Ask ask) {
    }

    private static final List<Told> EXAMPLE = List.of(new Told("addWords()", x -> x.addWords()),
            new Told("start(4, 6)", x -> x.start(4, 6)), new Told("family('o', 0, 1)", x -> x.family('o', 0, 1)),
            new Told("guess('e')", x -> x.guess('e')), new Told("guess('o')", x -> x.guess('o')),
            new Told("shown(1)", x -> x.shown(1)), new Told("shown(0)", x -> x.shown(0)),
            new Told("bestGuess()", x -> x.bestGuess()), new Told("missesAhead()", x -> x.missesAhead()),
            new Told("undo()", x -> x.undo()));

    public static void main(String[] args) throws IOException {
        List<String> lines = Files.readAllLines(Path.of("README.md")).stream()
                .filter(line -> line.matches("game\\..*; +// -?\\d+: .*")).toList();
        DodgingHangman x = new DodgingHangman();
        Check.type(x, "good,cool,deal");
        CHECK.due("calls with their answers in README.md", lines.size(), EXAMPLE.size());
        for (int i = 0; i < Math.min(lines.size(), EXAMPLE.size()); i++) {
            String line = lines.get(i);
            CHECK.holds(line + " is " + EXAMPLE.get(i).call(), line.startsWith("game." + EXAMPLE.get(i).call() + ";"));
            int told = Integer.parseInt(line.replaceFirst(".*// (-?\\d+): .*", "$1"));
            CHECK.due(EXAMPLE.get(i).call(), EXAMPLE.get(i).ask().of(x), told);
        }
        CHECK.end();
    }
}
