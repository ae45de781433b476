import java.util.ArrayList;
import java.util.List;

/**
 * Tears each changing call at each of its writes: it is done wholly when the mark was in the journal, not at all
 * before; nothing of another area changes; and a second crash changes nothing more.
 */
public final class TearTest {
    private static final List<String> BEFORE = List.of("area(0)", "area(1)", "clear(0, 511)", "login(0, 0)",
            "login(0, 1)", "make(0, /1, 1)", "make(0, /1/1, 1)", "make(0, /1/1/1, 1)", "make(4, /2, 2)",
            "write(4, /2, 3, 7)", "write(4, /2, 40, 8)", "make(4, /3, 1)", "make(4, /4, 2)", "make(4, /5, 2)",
            "write(4, /5, 9, 6)");
    private static final int WRITER = 1;

    private int wrong = 0;
    private int tears = 0;

    public static void main(String[] args) {
        TearTest test = new TearTest();
        test.tearEverywhere("make(4, /6, 1)", 1);
        test.tearEverywhere("make(4, /1/6, 2)", 2);
        test.tearEverywhere("make(4, /1/1/6, 2)", 3);
        test.tearEverywhere("write(4, /2, 3, 9)", 1);
        test.tearEverywhere("write(4, /2, 41, 9)", 2);
        test.tearEverywhere("write(4, /2, 8, 9)", 3);
        test.tearEverywhere("write(4, /4, 0, 9)", 3);
        test.tearEverywhere("write(4, /2, 79, 9)", 4);
        test.tearEverywhere("write(4, /4, 79, 9)", 4);
        test.tearEverywhere("write(4, /2, 3, 7)", 0);
        test.tearEverywhere("truncate(4, /2, 41)", 0);
        test.tearEverywhere("truncate(4, /2, 39)", 3);
        test.tearEverywhere("truncate(4, /5, 0)", 2);
        test.tearEverywhere("truncate(4, /2, 2)", 4);
        test.tearEverywhere("remove(4, /2)", 2);
        test.tearEverywhere("remove(4, /3)", 1);
        test.tearEverywhere("move(4, /2, /3/1)", 1);
        System.out.println(test.tears + " tears, " + test.wrong + " wrong");
        System.exit(test.wrong == 0 ? 0 : 1);
    }

    private void tearEverywhere(String call, int changedBlocks) {
        int needed = changedBlocks == 0 ? 0 : 2 * changedBlocks + 2;
        List<String> undone = askBehind(BEFORE, Probe.words(WRITER));
        List<String> done = askBehind(with(BEFORE, call), Probe.words(WRITER));
        String answer = Calls.answer(replayed(BEFORE), call);
        for (int n = 0; n <= needed + 1; n++) {
            tears++;
            String where = "tear(" + n + ") and " + call;
            List<String> torn = with(with(BEFORE, "tear(" + n + ")"), call);
            boolean crashes = n < needed;
            compare(where, crashes ? "-3" : answer, Calls.answer(replayed(torn.subList(0, torn.size() - 1)), call));
            List<String> words = n > changedBlocks || needed == 0 ? done : undone;
            compare(where, words, askBehind(torn, Probe.words(WRITER)));
            compare(where, words, askBehind(with(torn, "crash()"), Probe.words(WRITER)));
            compare(where, askBehind(BEFORE, Probe.words(0)), askBehind(torn, Probe.words(0)));
            compare(where, fuseAndSessions(n, needed), askBehind(torn, List.of("fuse()", "user(0)", "user(4)")));
            compareWrites(where, Math.min(n, needed), torn);
        }
    }

    private static List<String> fuseAndSessions(int n, int needed) {
        int fuse = n < needed ? LabelVault.NONE : n - needed;
        int user = n < needed ? LabelVault.NONE : 0;
        return List.of("fuse() -> " + fuse, "user(0) -> " + user, "user(4) -> " + user);
    }

    private void compareWrites(String where, int made, List<String> torn) {
        int before = replayed(BEFORE).about(WRITER, 3);
        compare(where, "writes " + (before + made), "writes " + replayed(torn).about(WRITER, 3));
        compare(where, askBehind(BEFORE, List.of("about(0, 3)")), askBehind(torn, List.of("about(0, 3)")));
    }

    private static List<String> with(List<String> calls, String call) {
        List<String> more = new ArrayList<>(calls);
        more.add(call);
        return more;
    }

    private static LabelVault replayed(List<String> calls) {
        LabelVault vault = new LabelVault();
        for (String call : calls) {
            Calls.answer(vault, call);
        }
        return vault;
    }

    private static List<String> askBehind(List<String> calls, List<String> questions) {
        LabelVault vault = replayed(calls);
        List<String> answers = new ArrayList<>();
        for (String question : questions) {
            answers.add(question + " -> " + Calls.answer(vault, question));
        }
        return answers;
    }

    private void compare(String where, List<String> due, List<String> got) {
        for (int i = 0; i < due.size(); i++) {
            compare(where, due.get(i), got.get(i));
        }
    }

    private void compare(String where, String due, String got) {
        if (!due.equals(got)) {
            wrong++;
            System.out.println(where + ": got " + got + ", due is " + due);
        }
    }
}
