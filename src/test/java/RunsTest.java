import java.io.IOException;
import java.nio.file.Path;
import java.util.ArrayList;
import java.util.List;
import java.util.Set;

/**
 * Makes the calls that are written in src/test/runs (long runs) and src/test/edges (a run for each sentence of the
 * document), with a file for each promise. Behind a call that is refused, or that only looks, nothing may have
 * changed.
 */
public final class RunsTest {
    private static final List<Path> DIRECTORIES = List.of(Path.of("src/test/runs"), Path.of("src/test/edges"));
    private static final int PROMISES = 21;
    // Behind more calls there is too little room left to ask all that can be seen.
    private static final int MOST_CALLS_TO_PROBE = 400;
    private static final Set<String> LOOKS = Set.of("flows", "read", "list", "look", "size", "user", "fuse");

    private final List<Run> runs = new ArrayList<>();
    private int wrong = 0;
    private int unchanged = 0;

    public static void main(String[] args) throws IOException {
        RunsTest test = new RunsTest();
        for (Path directory : DIRECTORIES) {
            test.runAll(directory);
        }
        test.runInPairs();
        System.out.println(test.runs.size() + " runs, " + test.unchanged + " calls that may change nothing, "
                + test.wrong + " wrong");
        System.exit(test.wrong == 0 ? 0 : 1);
    }

    private void runAll(Path directory) throws IOException {
        List<Path> files = Run.filesIn(directory);
        for (int promise = 1; promise <= PROMISES; promise++) {
            String start = String.format("%02d-", promise);
            if (files.stream().noneMatch(file -> file.getFileName().toString().startsWith(start))) {
                report("no run for promise " + promise + " in " + directory);
            }
        }
        for (Path file : files) {
            for (Run run : Run.readFrom(file)) {
                runOne(run);
            }
        }
    }

    private void runOne(Run run) {
        runs.add(run);
        if (run.steps().size() > Calls.MOST) {
            report(run.file() + ": a run of more than " + Calls.MOST + " calls: " + run.quote());
            return;
        }
        LabelVault vault = new LabelVault();
        List<String> calls = new ArrayList<>();
        List<String> before = null;
        for (Run.Step step : run.steps()) {
            String got = Calls.answer(vault, step.call());
            if (!got.equals(step.due())) {
                report(step.where() + ": " + step.call() + " answered " + got + ", due is " + step.due());
            }
            if (mayChangeNothing(step) && calls.size() < MOST_CALLS_TO_PROBE) {
                before = before == null ? Probe.behind(calls) : before;
                calls.add(step.call());
                demandUnchanged(step, before, Probe.behind(calls));
            } else {
                calls.add(step.call());
                before = null;
            }
        }
    }

    private static boolean mayChangeNothing(Run.Step step) {
        return step.isRefused() || LOOKS.contains(Calls.nameOf(step.call()));
    }

    /** Two objects that get their calls by turns have nothing to do with each other. */
    private void runInPairs() {
        for (int i = 1; i < runs.size(); i++) {
            List<Run.Step> one = runs.get(i - 1).steps();
            List<Run.Step> other = runs.get(i).steps();
            LabelVault first = new LabelVault();
            LabelVault second = new LabelVault();
            for (int k = 0; k < Math.max(one.size(), other.size()); k++) {
                compareBeside(first, one, k);
                compareBeside(second, other, k);
            }
        }
    }

    private void compareBeside(LabelVault vault, List<Run.Step> steps, int k) {
        if (k < steps.size() && !Calls.answer(vault, steps.get(k).call()).equals(steps.get(k).due())) {
            report(steps.get(k).where() + ": " + steps.get(k).call() + " answers otherwise beside another object");
        }
    }

    private void demandUnchanged(Run.Step step, List<String> before, List<String> then) {
        unchanged++;
        String difference = Probe.difference(before, then);
        if (difference != null) {
            report(step.where() + ": " + step.call() + " may change nothing, but " + difference);
        }
    }

    private void report(String what) {
        wrong++;
        System.out.println(what);
    }
}
