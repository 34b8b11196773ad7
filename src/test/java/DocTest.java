import java.io.IOException;
import java.nio.file.Files;
import java.nio.file.Path;
import java.util.ArrayList;
import java.util.List;
import java.util.Map;
import java.util.TreeMap;

/**
 * Holds the sentences of the tests against those of DOC.md: each sentence under "Terms" and under a promise has its
 * place in one of the SentencesOf tests, and what the tests tell of the document stands there.
 */
public final class DocTest {
    private static final Check CHECK = new Check("DocTest");
    private static final Path DOC = Path.of("../shared/DOC.md");

    public static void main(String[] args) throws IOException {
        if (!Files.exists(DOC)) {
            System.out.println("DocTest: " + DOC + " is not there, so nothing is compared");
            return;
        }
        Map<String, String> sections = sections(Files.readString(DOC));
        CHECK.due("sections: the terms and 30 promises", sections.size(), 31);
        Sentences told = Sentences.gathered();
        SentencesOfTermsTest.tell(told);
        SentencesOfTextTest.tell(told);
        SentencesOfListTest.tell(told);
        SentencesOfGameTest.tell(told);
        SentencesOfAheadTest.tell(told);
        SentencesOfUndoTest.tell(told);
        for (String heading : sections.keySet()) {
            List<String> quotes = told.quotes().getOrDefault(heading, List.of());
            for (String sentence : sentences(sections.get(heading))) {
                CHECK.holds(heading + ": there is a test for \"" + sentence + "\"",
                        quotes.stream().anyMatch(quote -> quote.contains(sentence)));
            }
        }
        told.quotes().forEach((heading, quotes) -> {
            String section = sections.getOrDefault(heading, "").replaceAll("\\s+", " ");
            for (String quote : quotes) {
                CHECK.holds(heading + ": the document says \"" + quote + "\"", section.contains(quote));
            }
        });
        CHECK.end();
    }

    private static Map<String, String> sections(String doc) {
        Map<String, String> all = new TreeMap<>();
        for (String section : doc.split("(?m)^## ")) {
            String heading = section.lines().findFirst().orElse("").trim();
            if (heading.equals("Terms") || heading.startsWith("Promise ")) {
                all.put(heading, section.substring(heading.length()));
            }
        }
        return all;
    }

    /** Split at each full stop, semicolon and colon, without the names of calls and of parameters ahead of them. */
    private static List<String> sentences(String section) {
        List<String> all = new ArrayList<>();
        for (String line : section.split("\n")) {
            if (line.isBlank() || line.startsWith("Ahead of the calls ")) {
                continue;
            }
            for (String sentence : line.replaceAll("^(- )?`[^`]*`: ", "").split("(?<=[.;:])\\s+")) {
                all.add(sentence.replaceAll("[.;:]$", ""));
            }
        }
        return all;
    }
}
