import java.io.IOException;
import java.nio.file.Files;
import java.nio.file.Path;
import java.util.ArrayList;
import java.util.List;

/**
 * Each test in src/test/edges quotes the words of the document that it tests; this asks whether they stand there, in
 * the section of that file, and whether no word of these sections is left without a test.
 */
public final class DocTest {
    private static final Path DOCUMENT = Path.of("../shared/DOC.md");
    private static final Path EDGES = Path.of("src/test/edges");
    private static final int LAST_PROMISE = 21;

    private int wrong = 0;

    public static void main(String[] args) throws IOException {
        if (!Files.exists(DOCUMENT)) {
            System.out.println("no document here: the quotes are not compared with it");
            return;
        }
        DocTest test = new DocTest();
        List<Path> files = Run.filesIn(EDGES);
        for (int section = 0; section <= LAST_PROMISE; section++) {
            test.compare(files, section);
        }
        System.exit(test.wrong == 0 ? 0 : 1);
    }

    private void compare(List<Path> files, int section) throws IOException {
        String text = sectionText(section == 0 ? "## Terms" : "## Promise " + section + ":");
        boolean[] tested = new boolean[text.length()];
        for (String quote : quotesIn(files, String.format("%02d-", section))) {
            int at = text.indexOf(quote);
            if (at < 0) {
                report("section " + section + " does not say: " + quote);
            }
            for (int i = at; at >= 0 && i < at + quote.length(); i++) {
                tested[i] = true;
            }
        }
        reportUntested(section, text, tested);
    }

    private static List<String> quotesIn(List<Path> files, String start) throws IOException {
        List<String> quotes = new ArrayList<>();
        for (Path file : files) {
            if (file.getFileName().toString().startsWith(start)) {
                for (Run run : Run.readFrom(file)) {
                    quotes.add(run.quote());
                }
            }
        }
        return quotes;
    }

    /** A section without its heading and without what stands between backticks (the face has its own test). */
    private static String sectionText(String heading) throws IOException {
        String all = Files.readString(DOCUMENT);
        int start = all.indexOf('\n', all.indexOf("\n" + heading) + 1);
        String section = all.substring(start, all.indexOf("\n## ", start));
        return section.replaceAll("`[^`]*`", "").replaceAll("\\s+", " ");
    }

    private void reportUntested(int section, String text, boolean[] tested) {
        StringBuilder untested = new StringBuilder();
        for (int i = 0; i <= text.length(); i++) {
            if (i < text.length() && !tested[i]) {
                untested.append(text.charAt(i));
            } else if (untested.chars().anyMatch(Character::isLetterOrDigit)) {
                report("section " + section + ", no test for: " + untested);
                untested.setLength(0);
            } else {
                untested.setLength(0);
            }
        }
    }

    private void report(String what) {
        wrong++;
        System.out.println(what);
    }
}
