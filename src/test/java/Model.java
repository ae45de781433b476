import java.util.ArrayList;
import java.util.HashMap;
import java.util.List;
import java.util.Map;
import java.util.TreeSet;

/**
 * What the document promises, told once more with maps of paths instead of a disk. Answers are texts as those of
 * Calls, so that both can be compared.
 */
final class Model {
    private static final String ARGUMENT = "throws.IllegalArgumentException";
    private static final String STATE = "throws.IllegalStateException";
    private static final String ELEMENT = "throws.NoSuchElementException";
    private static final String OPERATION = "throws.UnsupportedOperationException";
    private static final String INDEX = "throws.IndexOutOfBoundsException";
    private static final String FULL = "-2";

    /** A file or directory; blocks[10] is the indirect block, -1 stands for none. */
    private static final class Node {
        int inode;
        int kind;
        int size = 0;
        int[] blocks = {-1, -1, -1, -1, -1, -1, -1, -1, -1, -1, -1};

        Node(int inode, int kind) {
            this.inode = inode;
            this.kind = kind;
        }
    }

    private static final class Zone {
        final int label;
        Map<List<Integer>, Node> nodes = new HashMap<>();
        int[][] data = new int[20][8];
        int writes = 0;

        Zone(int label) {
            this.label = label;
            nodes.put(List.of(), new Node(0, 1));
        }

        Zone copy() {
            Zone copy = new Zone(label);
            copy.nodes.clear();
            for (Map.Entry<List<Integer>, Node> entry : nodes.entrySet()) {
                Node node = new Node(entry.getValue().inode, entry.getValue().kind);
                node.size = entry.getValue().size;
                node.blocks = entry.getValue().blocks.clone();
                copy.nodes.put(entry.getKey(), node);
            }
            for (int i = 0; i < 20; i++) {
                copy.data[i] = data[i].clone();
            }
            copy.writes = writes;
            return copy;
        }

        TreeSet<Integer> freeBlocks() {
            TreeSet<Integer> free = new TreeSet<>();
            for (int i = 0; i < 20; i++) {
                free.add(i);
            }
            for (Node node : nodes.values()) {
                for (int block : node.blocks) {
                    free.remove(block);
                }
            }
            return free;
        }

        TreeSet<Integer> freeInodes() {
            TreeSet<Integer> free = new TreeSet<>(List.of(0, 1, 2, 3, 4, 5, 6, 7));
            for (Node node : nodes.values()) {
                free.remove(node.inode);
            }
            return free;
        }

        int take(Node node, int place) {
            if (node.blocks[place] < 0) {
                node.blocks[place] = freeBlocks().first();
                data[node.blocks[place]] = new int[8];
            }
            return node.blocks[place];
        }

        int[][] disk() {
            int[][] disk = new int[29][8];
            for (Map.Entry<List<Integer>, Node> entry : nodes.entrySet()) {
                List<Integer> path = entry.getKey();
                Node node = entry.getValue();
                int[] words = disk[1 + node.inode];
                words[0] = node.kind;
                words[1] = path.isEmpty() ? 0 : nodes.get(parent(path)).inode;
                words[2] = path.isEmpty() ? 0 : path.get(path.size() - 1);
                words[3] = node.size;
                words[4] = node.blocks[0] + 1;
                words[5] = node.blocks[1] + 1;
                words[6] = node.blocks[10] + 1;
                for (int block : node.blocks) {
                    disk[0][0] |= block < 0 ? 0 : 1 << block;
                }
            }
            for (int i = 0; i < 20; i++) {
                disk[9 + i] = data[i];
            }
            return disk;
        }
    }

    private final List<Zone> zones = new ArrayList<>();
    private final int[] clearances = new int[4];
    private final Map<Integer, Integer> sessions = new HashMap<>();
    private Integer fuse = null;

    String answer(String name, int... x) {
        switch (name) {
            case "area": return area(x[0]);
            case "flows": return label(x[0]) && label(x[1]) ? String.valueOf(flows(x[0], x[1])) : ARGUMENT;
            case "clear": return clear(x[0], x[1]);
            case "login": return login(x[0], x[1]);
            case "logout": return sessions.containsKey(x[0]) ? text(sessions.remove(x[0])) : ARGUMENT;
            case "crash": return text(crash());
            case "tear": return tear(x[0]);
            case "disk": return disk(x[0], x[1], x[2]);
            case "about": return text(about(x[0], x[1]));
            case "user": return text(sessions.getOrDefault(x[0], -1));
            case "fuse": return text(fuse == null ? -1 : fuse);
            default: return sessionCall(name, x);
        }
    }

    /** All paths that are somewhere, as numbers. */
    List<Integer> paths() {
        TreeSet<Integer> numbers = new TreeSet<>();
        for (Zone zone : zones) {
            for (List<Integer> path : zone.nodes.keySet()) {
                numbers.add(path.stream().reduce(0, (number, name) -> number * 32 + name));
            }
        }
        return new ArrayList<>(numbers);
    }

    private String sessionCall(String name, int[] x) {
        List<Integer> path = path(x[1]);
        if (!sessions.containsKey(x[0]) || path == null) {
            return ARGUMENT;
        }
        int own = x[0] / 4;
        switch (name) {
            case "make": return make(own, path, x[2]);
            case "write": return write(own, path, x[2], x[3]);
            case "truncate": return truncate(own, path, x[2]);
            case "remove": return remove(own, path);
            case "move": return move(own, path, path(x[2]));
            case "read": return read(own, path, x[2], x[3], true);
            case "size": return read(own, path, x[2], 0, false);
            case "list": return list(own, path);
            case "look": return look(own, path);
            default: throw new IllegalArgumentException(name);
        }
    }

    private static String text(int answer) {
        return String.valueOf(answer);
    }

    private static boolean label(int label) {
        return label >= 0 && label <= 511;
    }

    private static boolean flows(int a, int b) {
        return a % 4 <= b % 4 && among(a / 4 % 8, b / 4 % 8) && b / 32 % 4 <= a / 32 % 4 && among(b / 128, a / 128);
    }

    private static boolean among(int some, int all) {
        return (some | all) == all;
    }

    private static List<Integer> path(int number) {
        List<Integer> names = new ArrayList<>();
        for (int rest = number; rest != 0; rest = rest / 32) {
            int name = rest % 32;
            if (name < 1 || name > 26 || names.size() == 4) {
                return null;
            }
            names.add(0, name);
        }
        return names;
    }

    private static List<Integer> parent(List<Integer> path) {
        return path.subList(0, path.size() - 1);
    }

    private static boolean begins(List<Integer> path, List<Integer> with) {
        return path.size() >= with.size() && path.subList(0, with.size()).equals(with);
    }

    private String area(int label) {
        if (!label(label)) {
            return ARGUMENT;
        }
        if (zones.size() == 6 || zones.stream().anyMatch(zone -> zone.label == label)) {
            return STATE;
        }
        zones.add(new Zone(label));
        return text(zones.size() - 1);
    }

    private String clear(int u, int label) {
        if (u < 0 || u > 3 || !label(label)) {
            return ARGUMENT;
        }
        clearances[u] = label;
        return "true";
    }

    private String login(int u, int a) {
        if (u < 0 || u > 3 || a < 0 || a >= zones.size()) {
            return ARGUMENT;
        }
        int label = zones.get(a).label;
        int clearance = clearances[u];
        boolean levels = label % 4 <= clearance % 4 && label / 32 % 4 <= clearance / 32 % 4;
        if (!levels || !among(label / 4 % 8, clearance / 4 % 8) || !among(label / 128, clearance / 128)) {
            return STATE;
        }
        for (int session = 4 * a; session < 4 * a + 4; session++) {
            if (!sessions.containsKey(session)) {
                sessions.put(session, u);
                return text(session);
            }
        }
        return FULL;
    }

    private int crash() {
        int ended = sessions.size();
        sessions.clear();
        fuse = null;
        return ended;
    }

    private String tear(int n) {
        if (n < 0 || n > 1000) {
            return ARGUMENT;
        }
        fuse = n;
        return "true";
    }

    private String disk(int a, int b, int w) {
        boolean there = a >= 0 && a < zones.size() && b >= 0 && b < 29 && w >= 0 && w < 8;
        return there ? text(zones.get(a).disk()[b][w]) : ARGUMENT;
    }

    private int about(int a, int what) {
        if (a < 0 || a >= zones.size()) {
            return -1;
        }
        switch (what) {
            case 0: return zones.get(a).label;
            case 1: return zones.get(a).freeBlocks().size();
            case 2: return zones.get(a).freeInodes().size();
            case 3: return zones.get(a).writes;
            case 4: return (int) sessions.keySet().stream().filter(session -> session / 4 == a).count();
            default: return -1;
        }
    }

    private List<Node> seen(int own, List<Integer> path) {
        List<Node> seen = new ArrayList<>();
        for (Zone zone : zones) {
            if (flows(zone.label, zones.get(own).label) && zone.nodes.containsKey(path)) {
                seen.add(zone.nodes.get(path));
            }
        }
        return seen;
    }

    private static boolean noDirectory(List<Node> nodes) {
        return nodes.stream().noneMatch(node -> node.kind == 1);
    }

    /** The answer of a call that made a zone into another: what is left depends on the fuse. */
    private String change(int own, Zone after, int answer) {
        Zone before = zones.get(own);
        int changed = 0;
        for (int b = 0; b < 29; b++) {
            changed += java.util.Arrays.equals(before.disk()[b], after.disk()[b]) ? 0 : 1;
        }
        int needed = changed == 0 ? 0 : 2 * changed + 2;
        if (fuse == null || fuse >= needed) {
            fuse = fuse == null ? null : fuse - needed;
            after.writes = before.writes + needed;
            zones.set(own, after);
            return text(answer);
        }
        Zone left = fuse > changed ? after : before;
        left.writes = before.writes + fuse;
        zones.set(own, left);
        crash();
        return "-3";
    }

    private String make(int own, List<Integer> path, int kind) {
        if (path.isEmpty() || kind < 1 || kind > 2) {
            return ARGUMENT;
        }
        Zone zone = zones.get(own).copy();
        List<Node> parents = seen(own, parent(path));
        if (parents.isEmpty()) {
            return ELEMENT;
        }
        boolean behindFile = false;
        List<List<Integer>> missing = new ArrayList<>();
        for (int length = 1; length <= path.size(); length++) {
            Node there = zone.nodes.get(path.subList(0, length));
            behindFile |= length < path.size() && there != null && there.kind == 2;
            if (there == null) {
                missing.add(path.subList(0, length));
            }
        }
        if (noDirectory(parents) || behindFile) {
            return OPERATION;
        }
        if (missing.isEmpty()) {
            return STATE;
        }
        if (missing.size() > zone.freeInodes().size()) {
            return FULL;
        }
        for (List<Integer> next : missing) {
            zone.nodes.put(next, new Node(zone.freeInodes().first(), next.size() == path.size() ? kind : 1));
        }
        return change(own, zone, zone.nodes.get(path).inode);
    }

    /** What write, truncate, remove and move throw first, or null. */
    private String refusal(int own, List<Integer> path) {
        if (seen(own, path).isEmpty()) {
            return ELEMENT;
        }
        return zones.get(own).nodes.containsKey(path) ? null : STATE;
    }

    private String write(int own, List<Integer> path, int at, int v) {
        if (at < 0 || at > 79) {
            return ARGUMENT;
        }
        if (refusal(own, path) != null) {
            return refusal(own, path);
        }
        Zone zone = zones.get(own).copy();
        Node node = zone.nodes.get(path);
        if (node.kind == 1) {
            return OPERATION;
        }
        int k = at / 8;
        int needed = (node.blocks[k] < 0 ? 1 : 0) + (k > 1 && node.blocks[10] < 0 ? 1 : 0);
        if (needed > zone.freeBlocks().size()) {
            return FULL;
        }
        if (k > 1) {
            zone.take(node, 10);
        }
        zone.data[zone.take(node, k)][at % 8] = v;
        if (k > 1) {
            zone.data[node.blocks[10]][k - 2] = node.blocks[k] + 1;
        }
        node.size = Math.max(node.size, at + 1);
        return change(own, zone, node.size);
    }

    private String truncate(int own, List<Integer> path, int n) {
        if (n < 0 || n > 80) {
            return ARGUMENT;
        }
        if (refusal(own, path) != null) {
            return refusal(own, path);
        }
        Zone zone = zones.get(own).copy();
        Node node = zone.nodes.get(path);
        if (node.kind == 1 || n > node.size) {
            return OPERATION;
        }
        int freeBefore = zone.freeBlocks().size();
        boolean anyIndirect = false;
        for (int k = 0; k < 10; k++) {
            for (int i = 0; i < 8 && node.blocks[k] >= 0 && 8 * k < n; i++) {
                zone.data[node.blocks[k]][i] = 8 * k + i < n ? zone.data[node.blocks[k]][i] : 0;
            }
            if (8 * k >= n && node.blocks[k] >= 0) {
                node.blocks[k] = -1;
                if (k > 1) {
                    zone.data[node.blocks[10]][k - 2] = 0;
                }
            }
            anyIndirect |= k > 1 && node.blocks[k] >= 0;
        }
        node.blocks[10] = anyIndirect ? node.blocks[10] : -1;
        node.size = n;
        return change(own, zone, zone.freeBlocks().size() - freeBefore);
    }

    private String remove(int own, List<Integer> path) {
        if (path.isEmpty()) {
            return ARGUMENT;
        }
        if (refusal(own, path) != null) {
            return refusal(own, path);
        }
        Zone zone = zones.get(own).copy();
        if (zone.nodes.keySet().stream().anyMatch(other -> begins(other, path) && !other.equals(path))) {
            return OPERATION;
        }
        Node node = zone.nodes.remove(path);
        return change(own, zone, node.inode);
    }

    private String move(int own, List<Integer> path, List<Integer> to) {
        if (path.isEmpty() || to == null || to.isEmpty()) {
            return ARGUMENT;
        }
        if (refusal(own, path) != null) {
            return refusal(own, path);
        }
        Zone zone = zones.get(own).copy();
        if (zone.nodes.containsKey(to)) {
            return STATE;
        }
        Node newParent = zone.nodes.get(parent(to));
        if (newParent == null || newParent.kind == 2 || begins(parent(to), path)) {
            return OPERATION;
        }
        int inode = zone.nodes.get(path).inode;
        Map<List<Integer>, Node> moved = new HashMap<>();
        for (Map.Entry<List<Integer>, Node> entry : zone.nodes.entrySet()) {
            List<Integer> target = entry.getKey();
            if (begins(target, path)) {
                List<Integer> rest = target.subList(path.size(), target.size());
                target = new ArrayList<>(to);
                target.addAll(rest);
            }
            if (target.size() > 4) {
                return OPERATION;
            }
            moved.put(target, entry.getValue());
        }
        zone.nodes = moved;
        return change(own, zone, inode);
    }

    private String read(int own, List<Integer> path, int a, int at, boolean word) {
        if (a < 0 || a >= zones.size()) {
            return ARGUMENT;
        }
        Zone zone = zones.get(a);
        if (!flows(zone.label, zones.get(own).label)) {
            return STATE;
        }
        Node node = zone.nodes.get(path);
        if (node == null) {
            return ELEMENT;
        }
        if (node.kind == 1) {
            return OPERATION;
        }
        if (!word) {
            return text(node.size);
        }
        if (at < 0 || at >= node.size) {
            return INDEX;
        }
        return text(node.blocks[at / 8] < 0 ? 0 : zone.data[node.blocks[at / 8]][at % 8]);
    }

    private String list(int own, List<Integer> path) {
        if (seen(own, path).isEmpty()) {
            return ELEMENT;
        }
        if (noDirectory(seen(own, path))) {
            return OPERATION;
        }
        int names = 0;
        for (Zone zone : zones) {
            for (List<Integer> other : zone.nodes.keySet()) {
                boolean in = other.size() == path.size() + 1 && begins(other, path);
                if (in && flows(zone.label, zones.get(own).label)) {
                    names |= 1 << (other.get(path.size()) - 1);
                }
            }
        }
        return text(names);
    }

    private String look(int own, List<Integer> path) {
        int kinds = 0;
        for (int a = 0; a < zones.size(); a++) {
            Node node = zones.get(a).nodes.get(path);
            if (node != null && flows(zones.get(a).label, zones.get(own).label)) {
                kinds += node.kind << (2 * a);
            }
        }
        return text(kinds);
    }
}
