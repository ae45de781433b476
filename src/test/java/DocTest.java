import java.io.IOException;
import java.nio.file.Files;
import java.nio.file.Path;
import java.util.ArrayList;
import java.util.List;

/**
 * Each test in src/test/edges quotes the words of the document that it tests; this asks whether they stand there, in
 * the section of that file, and whether no word of these sections is left without a test. The face that FaceTest
 * asks for is the document's.
 */
public final class DocTest {
    private static final Path DOCUMENT = Path.of("../shared/DOC.md");
    private static final Path EDGES = Path.of("src/test/edges");
    private static final int LAST_PROMISE = 21;

    private final String document;
    private int wrong = 0;

    private DocTest(String document) {
        this.document = document;
    }

    public static void main(String[] args) throws IOException {
        if (!Files.exists(DOCUMENT)) {
            System.out.println("no document here: the quotes are not compared with it");
            return;
        }
        DocTest test = new DocTest(Files.readString(DOCUMENT));
        test.compareFace();
        test.compareQuotes("What it is", "00-what");
        test.compareQuotes("Terms", "00-terms");
        for (int promise = 1; promise <= LAST_PROMISE; promise++) {
            test.compareQuotes("Promise " + promise + ":", String.format("%02d-", promise));
        }
        System.exit(test.wrong == 0 ? 0 : 1);
    }

    private void compareFace() {
        List<String> members = new ArrayList<>();
        for (String line : section("The public face").split("\n")) {
            if (line.startsWith("    public ")) {
                members.add(line.trim());
            }
        }
        if (!members.equals(FaceTest.FACE)) {
            report("FaceTest does not ask for the document's face: " + members);
        }
    }

    private void compareQuotes(String section, String file) throws IOException {
        String text = plainText(section);
        boolean[] tested = new boolean[text.length()];
        for (String quote : quotesIn(file)) {
            int at = text.indexOf(quote);
            if (at < 0) {
                report(section + " does not say: " + quote);
            }
            for (int i = at; at >= 0 && i < at + quote.length(); i++) {
                tested[i] = true;
            }
        }
        reportUntested(section, text, tested);
    }

    private static List<String> quotesIn(String start) throws IOException {
        List<String> quotes = new ArrayList<>();
        for (Path file : Run.filesIn(EDGES)) {
            if (file.getFileName().toString().startsWith(start)) {
                for (Run run : Run.readFrom(file)) {
                    quotes.add(run.quote());
                }
            }
        }
        return quotes;
    }

    private String section(String heading) {
        int start = document.indexOf('\n', document.indexOf("\n## " + heading) + 1);
        return document.substring(start, document.indexOf("\n## ", start));
    }

    /** A section in one line, without what stands between backticks (the face has its own test). */
    private String plainText(String heading) {
        return section(heading).replaceAll("`[^`]*`", "").replaceAll("\\s+", " ");
    }

    private void reportUntested(String section, String text, boolean[] tested) {
        StringBuilder untested = new StringBuilder();
        for (int i = 0; i <= text.length(); i++) {
            if (i < text.length() && !tested[i]) {
                untested.append(text.charAt(i));
            } else if (untested.chars().anyMatch(Character::isLetterOrDigit)) {
                report(section + " has no test for: " + untested);
                untested.setLength(0);
            } else {
                untested.setLength(0);
            }
        }
    }

    private void report(String what) {
        wrong++;
        System.out.println(what);
    }
}
