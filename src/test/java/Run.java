import java.io.IOException;
import java.nio.file.Files;
import java.nio.file.Path;
import java.util.ArrayList;
import java.util.List;
import java.util.Map;
import java.util.stream.Collectors;
import java.util.stream.Stream;

/**
 * Calls on a new object, each with the answer that is due, as written in a file of runs:
 *
 * <pre>
 * setup                      the calls that each test of this file begins with
 * test words of the document begins a run that tests these words
 * new                        begins a run without the setup and without such words
 * call -> answer             a call and the answer that is due
 * # a comment
 * </pre>
 *
 * An argument {1|4..6|MAX} stands for several calls, one with each value; behind the arrow there is an answer for
 * each of them, or one for all. NO_LABEL and the like stand for values that are never allowed.
 */
record Run(String file, String quote, List<Step> steps) {
    /** A call and the answer that is due. */
    record Step(String where, String call, String due) {
        boolean isRefused() {
            return due.startsWith("throws.") || due.equals(String.valueOf(LabelVault.FULL));
        }
    }

    private static final Map<String, String> LISTS = Map.of(
            "NO_LABEL", "MIN|-512|-1|512|1023|MAX",
            "NO_USER", "MIN|-4|-1|4|MAX",
            // A name above 26 in each place; a 0 behind a digit in each place; five names and more; below 0, also
            // with four names in the lower digits.
            "NO_PATH", "27|31|/1/27|/27/1|/1/1/27|/1/27/1|/27/1/1|/1/1/1/27|/1/1/27/1|/1/27/1/1|/27/1/1/1|/31/31/31/31"
                    + "|32|832|1024|1025|1056|32768|32769|32800|33792|33793|33824"
                    + "|1048576|1048577|1082400|/1/1/1/1/1|/26/26/26/26/26|/1/1/1/1/1/1|/1/1/1/1/1/1/1|MAX"
                    + "|-1|-5|-26|-32|-1024|-2147449823|-2147483647|MIN");

    static List<Path> filesIn(Path directory) throws IOException {
        try (Stream<Path> found = Files.list(directory)) {
            return found.sorted().collect(Collectors.toList());
        }
    }

    static List<Run> readFrom(Path file) throws IOException {
        String name = file.getFileName().toString();
        List<Run> runs = new ArrayList<>();
        List<Step> setup = new ArrayList<>();
        List<Step> steps = null;
        int number = 0;
        for (String line : Files.readAllLines(file)) {
            number++;
            String text = line.replaceFirst("(^| +)#.*", "").trim();
            if (text.equals("setup")) {
                steps = setup;
            } else if (text.equals("new")) {
                steps = new ArrayList<>();
                runs.add(new Run(name, null, steps));
            } else if (text.startsWith("test ")) {
                steps = new ArrayList<>(setup);
                runs.add(new Run(name, text.substring("test ".length()).trim(), steps));
            } else if (!text.isEmpty()) {
                steps.addAll(stepsOf(name + ":" + number, text));
            }
        }
        return runs;
    }

    private static List<Step> stepsOf(String where, String text) {
        int arrow = text.indexOf(" -> ");
        List<String> calls = spread(text.substring(0, arrow).trim());
        String[] answers = text.substring(arrow + " -> ".length()).trim().split(" +");
        if (answers.length != 1 && answers.length != calls.size()) {
            throw new IllegalArgumentException(where + ": " + calls.size() + " calls and " + answers.length + " answers");
        }
        List<Step> steps = new ArrayList<>();
        for (int i = 0; i < calls.size(); i++) {
            String due = answers[answers.length == 1 ? 0 : i];
            boolean asWritten = due.startsWith("throws.") || due.equals("true") || due.equals("false");
            steps.add(new Step(where, calls.get(i), asWritten ? due : String.valueOf(Calls.number(due))));
        }
        return steps;
    }

    private static List<String> spread(String call) {
        int open = call.indexOf('{');
        if (open < 0) {
            return List.of(call);
        }
        int close = call.indexOf('}');
        String inside = call.substring(open + 1, close);
        List<String> calls = new ArrayList<>();
        for (String value : valuesOf(LISTS.getOrDefault(inside, inside))) {
            calls.addAll(spread(call.substring(0, open) + value + call.substring(close + 1)));
        }
        return calls;
    }

    private static List<String> valuesOf(String list) {
        List<String> values = new ArrayList<>();
        for (String part : list.split("\\|")) {
            int dots = part.indexOf("..");
            if (dots < 0) {
                values.add(part);
            } else {
                int last = Integer.parseInt(part.substring(dots + 2));
                for (int value = Integer.parseInt(part.substring(0, dots)); value <= last; value++) {
                    values.add(String.valueOf(value));
                }
            }
        }
        return values;
    }
}
