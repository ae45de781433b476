import java.util.List;
import java.util.Random;
import java.util.Set;
import java.util.TreeMap;

/** Long mixed runs of calls, each answer compared with that of the model, then the words of a disk. */
public final class ModelTest {
    private static final int RUNS = 1200;
    // With the words of a disk behind them all calls stay below the 512 that an object is good for.
    private static final int MOST_CALLS = 275;
    private static final int[] LABELS = {0, 1, 2, 5, 32, 36, 128, 0, 1, 33, 160, 511};
    private static final String[] CHANGES = {
        "make", "write", "write", "write", "write", "truncate", "move", "remove", "make", "make", "move",
    };
    private static final String[] LOOKS = {"read", "read", "list", "look", "size", "about", "user", "fuse", "disk"};

    private static final Set<String> OUTCOMES = Set.of("make -2", "make -3", "write -2", "write -3", "truncate -3",
            "remove -3", "move -3", "login -2", "read throws.IndexOutOfBoundsException",
            "move throws.UnsupportedOperationException", "truncate answers", "list answers");

    private final Random random;
    private final LabelVault vault = new LabelVault();
    private final Model model = new Model();
    private final TreeMap<String, Integer> answers;
    private final StringBuilder calls = new StringBuilder();
    private int tears = 0;
    private int files = 2;
    private int changes = 0;
    private int areas = 0;
    private int callCount = 0;
    private boolean right = true;

    private ModelTest(int seed, TreeMap<String, Integer> answers) {
        this.random = new Random(seed);
        this.answers = answers;
    }

    public static void main(String[] args) {
        TreeMap<String, Integer> answers = new TreeMap<>();
        for (int seed = 1; seed <= RUNS; seed++) {
            ModelTest test = new ModelTest(seed, answers);
            test.run();
            if (!test.right) {
                System.out.println("seed " + seed + ":\n" + test.calls);
                System.exit(1);
            }
        }
        int calls = answers.values().stream().mapToInt(Integer::intValue).sum();
        System.out.println(calls + " calls answered as the model does");
        if (!answers.keySet().containsAll(OUTCOMES)) {
            System.out.println("not all outcomes came up: " + answers);
            System.exit(1);
        }
    }

    private void run() {
        areas = 1 + random.nextInt(3);
        tears = random.nextInt(3) * random.nextInt(3);
        files = 2 + random.nextInt(4);
        changes = 5 + random.nextInt(CHANGES.length - 4);
        for (int a = 0; a < areas; a++) {
            compare("area", LABELS[random.nextInt(LABELS.length)]);
        }
        compare("clear", 0, 511);
        int length = 1 + random.nextInt(MOST_CALLS);
        while (callCount < length && right) {
            compareAny();
        }
        int a = random.nextInt(areas);
        for (int i = 0; i < 29 * 8; i++) {
            compare("disk", a, i / 8, i % 8);
        }
    }

    private void compareAny() {
        int choice = random.nextInt(100);
        if (choice < 3) {
            compare("login", random.nextInt(3) == 0 ? random.nextInt(6) - 1 : 0, random.nextInt(areas + 1));
        } else if (choice < 5) {
            compareRare();
        } else if (choice < 5 + tears) {
            compare("tear", random.nextInt(24));
        } else if (choice < 75) {
            compareOfSession(CHANGES[random.nextInt(changes)]);
        } else {
            compareOfSession(LOOKS[random.nextInt(LOOKS.length)]);
        }
    }

    private void compareRare() {
        switch (random.nextInt(7)) {
            case 0: compare("crash"); break;
            case 1: compare("logout", session()); break;
            case 2: compare("tear", random.nextInt(1100) - 50); break;
            case 3: compare("area", LABELS[random.nextInt(LABELS.length)]); break;
            case 4: compare("flows", random.nextInt(520) - 4, random.nextInt(520) - 4); break;
            case 5: compare("flows", random.nextInt(512), random.nextInt(512)); break;
            default: compare("clear", random.nextInt(5), random.nextInt(514) - 1); break;
        }
    }

    private void compareOfSession(String name) {
        switch (name) {
            case "make": compareMake(); break;
            case "write": compare(name, session(), path(), place(), random.nextInt(5) - 2); break;
            case "truncate": compare(name, session(), path(), place()); break;
            case "move": compare(name, session(), path(), random.nextBoolean() ? path() : 1 + random.nextInt(4)); break;
            case "read": compare(name, session(), path(), random.nextInt(areas + 1), place()); break;
            case "size": compare(name, session(), path(), random.nextInt(areas + 2) - 1); break;
            case "about": compare(name, random.nextInt(areas + 1), random.nextInt(7) - 1); break;
            case "user": compare(name, session()); break;
            case "fuse": compare(name); break;
            case "disk": compare(name, random.nextInt(areas), random.nextInt(30), random.nextInt(9)); break;
            default: compare(name, session(), path()); break;
        }
    }

    private void compareMake() {
        int under = random.nextInt(3) == 0 ? 0 : path();
        int path = rare() ? path() : under < 0 || under > 32 * 32 * 32 ? 1 : under * 32 + 1 + random.nextInt(3);
        compare("make", session(), path, rare() ? random.nextInt(4) : 1 + Math.min(1, random.nextInt(files)));
    }

    private boolean rare() {
        return random.nextInt(20) == 0;
    }

    /** Most often one that is open, be it opened just for this. */
    private int session() {
        if (rare()) {
            return random.nextInt(30) - 3;
        }
        int a = random.nextInt(areas);
        if (model.answer("user", 4 * a).equals("-1")) {
            compare("login", 0, a);
        }
        return 4 * a;
    }

    private int path() {
        if (rare()) {
            return random.nextInt(1200) - 10;
        }
        if (random.nextInt(4) != 0) {
            List<Integer> there = model.paths();
            return there.get(random.nextInt(there.size()));
        }
        int path = 0;
        int length = rare() ? random.nextInt(6) : 1 + Math.min(random.nextInt(4), random.nextInt(4));
        for (int i = 0; i < length; i++) {
            path = path * 32 + 1 + random.nextInt(2);
        }
        return path;
    }

    private int place() {
        return random.nextInt(3) == 0 ? random.nextInt(18) - 1 : random.nextInt(84) - 2;
    }

    private void compare(String name, int... arguments) {
        StringBuilder call = new StringBuilder(name).append('(');
        for (int i = 0; i < arguments.length; i++) {
            call.append(i == 0 ? "" : ", ").append(arguments[i]);
        }
        call.append(')');
        callCount++;
        String got = Calls.answer(vault, call.toString());
        String due = model.answer(name, arguments);
        calls.append(call).append(" -> ").append(got).append('\n');
        answers.merge(name + " " + (due.startsWith("throws") || due.equals("-2") || due.equals("-3") ? due : "answers"),
                1, Integer::sum);
        if (!got.equals(due) && right) {
            right = false;
            calls.append("   due is ").append(due).append('\n');
        }
    }
}
