import java.util.ArrayList;
import java.util.List;

/**
 * All that can be seen of an object behind some calls: what its areas, disks, sessions and fuse are, who could log
 * in, and what is on the disks behind a crash. Each part is asked of an object of its own that gets the same calls
 * first, for an object is good for 512 calls only.
 */
final class Probe {
    private static final int AREAS = 6;
    private static final int USERS = 4;

    private final List<String> before;
    private final List<String> seen = new ArrayList<>();

    private Probe(List<String> before) {
        this.before = before;
    }

    static List<String> behind(List<String> calls) {
        Probe probe = new Probe(calls);
        int areas = probe.countAreas();
        probe.ask(List.of(), plainQuestions(areas));
        probe.ask(logins(areas), List.of());
        for (int a = 0; a < areas; a++) {
            probe.ask(List.of("crash()", "fuse()"), words(a));
        }
        return probe.seen;
    }

    /** What differs between two probes, in words. */
    static String difference(List<String> one, List<String> other) {
        for (int i = 0; i < Math.min(one.size(), other.size()); i++) {
            if (!one.get(i).equals(other.get(i))) {
                return one.get(i) + " before, " + other.get(i) + " then";
            }
        }
        return one.size() == other.size() ? null : "another number of areas";
    }

    static List<String> words(int a) {
        List<String> questions = new ArrayList<>();
        for (int b = 0; b < 29; b++) {
            for (int w = 0; w < 8; w++) {
                questions.add("disk(" + a + ", " + b + ", " + w + ")");
            }
        }
        return questions;
    }

    private int countAreas() {
        LabelVault vault = replayed();
        int areas = 0;
        while (areas < AREAS && vault.about(areas, 0) != LabelVault.NONE) {
            areas++;
        }
        return areas;
    }

    private static List<String> plainQuestions(int areas) {
        List<String> questions = new ArrayList<>();
        questions.add("fuse()");
        for (int session = 0; session < 4 * areas; session++) {
            questions.add("user(" + session + ")");
        }
        for (int a = 0; a < areas; a++) {
            for (int what = 0; what <= 4; what++) {
                questions.add("about(" + a + ", " + what + ")");
            }
            questions.addAll(words(a));
        }
        return questions;
    }

    private static List<String> logins(int areas) {
        List<String> questions = new ArrayList<>();
        for (int u = 0; u < USERS; u++) {
            for (int a = 0; a < areas; a++) {
                questions.add("login(" + u + ", " + a + ")");
            }
        }
        return questions;
    }

    private LabelVault replayed() {
        LabelVault vault = new LabelVault();
        for (String call : before) {
            Calls.answer(vault, call);
        }
        return vault;
    }

    /** Asks the first questions of each new object again, those behind them once each. */
    private void ask(List<String> first, List<String> questions) {
        int room = Math.max(1, Calls.MOST - before.size() - first.size());
        int from = 0;
        do {
            LabelVault vault = replayed();
            askOf(vault, first);
            askOf(vault, questions.subList(from, Math.min(questions.size(), from + room)));
            from += room;
        } while (from < questions.size());
    }

    private void askOf(LabelVault vault, List<String> questions) {
        for (String question : questions) {
            seen.add(question + " -> " + Calls.answer(vault, question));
        }
    }
}
