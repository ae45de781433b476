import java.io.IOException;
import java.nio.file.Files;
import java.nio.file.Path;
import java.util.List;
import java.util.stream.Collectors;
import java.util.stream.Stream;

/**
 * Makes the calls that are written in src/test/runs, a file for each promise. "new" makes a new object; a line
 * "call -> answer" is a call and the answer that is due; "#" begins a comment.
 */
public final class RunsTest {
    private static final Path RUNS = Path.of("src", "test", "runs");
    private static final int PROMISES = 21;
    private static final int MOST_CALLS = 512;

    private int wrong = 0;
    private LabelVault vault = null;
    private int calls = 0;

    public static void main(String[] args) throws IOException {
        RunsTest test = new RunsTest();
        List<Path> files;
        try (Stream<Path> found = Files.list(RUNS)) {
            files = found.sorted().collect(Collectors.toList());
        }
        for (int promise = 1; promise <= PROMISES; promise++) {
            String start = String.format("%02d-", promise);
            if (files.stream().noneMatch(file -> file.getFileName().toString().startsWith(start))) {
                test.report("no run for promise " + promise);
            }
        }
        for (Path file : files) {
            test.runFile(file);
        }
        System.out.println(files.size() + " files of runs, " + test.wrong + " wrong");
        System.exit(test.wrong == 0 ? 0 : 1);
    }

    private void runFile(Path file) throws IOException {
        vault = null;
        int number = 0;
        for (String line : Files.readAllLines(file)) {
            number++;
            String text = line.replaceFirst("#.*", "").trim();
            if (text.equals("new")) {
                vault = new LabelVault();
                calls = 0;
            } else if (!text.isEmpty()) {
                runCall(file.getFileName() + ":" + number + ": ", text);
            }
        }
    }

    private void runCall(String where, String text) {
        String[] sides = text.split(" -> ");
        if (sides.length != 2 || vault == null || ++calls > MOST_CALLS) {
            report(where + "this line can't be run: " + text);
            return;
        }
        String got = Calls.answer(vault, sides[0]);
        String due = sides[1].trim();
        boolean asWritten = due.startsWith("throws.") || due.equals("true") || due.equals("false");
        String want = asWritten ? due : String.valueOf(Calls.number(due));
        if (!got.equals(want)) {
            report(where + sides[0] + " answered " + got + ", due is " + want);
        }
    }

    private void report(String what) {
        wrong++;
        System.out.println(what);
    }
}
