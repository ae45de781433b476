import java.util.Arrays;
import java.util.NoSuchElementException;

/** Files for people of different clearances, an area for each label, as ../shared/DOC.md promises. */
public final class LabelVault {
    public static final int NONE = -1;
    public static final int FULL = -2;
    public static final int CRASHED = -3;

    private static final int MAX_AREAS = 6;
    private static final int USERS = 4;
    private static final int SESSIONS_PER_AREA = 4;
    private static final int LONGEST_FUSE = 1000;

    private static final int NOTHING = 0;
    private static final int DIRECTORY = 1;
    private static final int FILE = 2;

    private final Area[] areas = new Area[MAX_AREAS];
    private int areaCount = 0;
    private final int[] clearances = new int[USERS];
    private final Fuse fuse = new Fuse();

    public LabelVault() {
    }

    public int area(int label) throws IllegalArgumentException, IllegalStateException {
        demand(Labels.isLabel(label));
        if (areaCount >= MAX_AREAS || hasLabel(label)) {
            throw new IllegalStateException("no more areas, or this label has one");
        }
        int number = areaCount;
        areas[number] = new Area(label, new Disk());
        areaCount++;
        return number;
    }

    public boolean flows(int a, int b) throws IllegalArgumentException {
        demand(Labels.isLabel(a) && Labels.isLabel(b));
        return Labels.mayFlow(a, b);
    }

    public boolean clear(int u, int label) throws IllegalArgumentException {
        demand(isUser(u) && Labels.isLabel(label));
        clearances[u] = label;
        return true;
    }

    public int login(int u, int a) throws IllegalArgumentException, IllegalStateException {
        demand(isUser(u));
        Area area = areaNumbered(a);
        if (!Labels.isWithin(area.label, clearances[u])) {
            throw new IllegalStateException("the clearance is not enough for this area");
        }
        int place = area.admit(u);
        return place == NONE ? FULL : SESSIONS_PER_AREA * a + place;
    }

    public int logout(int session) throws IllegalArgumentException {
        Area area = areaOf(session);
        return area.dismiss(session % SESSIONS_PER_AREA);
    }

    public int make(int session, int path, int kind) throws IllegalArgumentException, NoSuchElementException,
            UnsupportedOperationException, IllegalStateException {
        Area area = areaOf(session);
        demand(Paths.isBelowRoot(path) && (kind == DIRECTORY || kind == FILE));
        int parentKinds = kindsSeen(area.label, Paths.parentOf(path));
        if (parentKinds == NOTHING) {
            throw new NoSuchElementException("the parent is not visible");
        }
        if ((parentKinds & DIRECTORY) == 0 || area.tree.hasFileAbove(path)) {
            throw new UnsupportedOperationException("a file is on the way");
        }
        if (area.tree.find(path) != NONE) {
            throw new IllegalStateException("the area has this path");
        }
        int inode = area.tree.create(path, kind);
        return inode == NONE ? giveUp(area) : finish(area, inode);
    }

    public int write(int session, int path, int at, int v) throws IllegalArgumentException, NoSuchElementException,
            IllegalStateException, UnsupportedOperationException {
        Area area = areaOf(session);
        demand(Paths.isPath(path) && at >= 0 && at < Contents.MAX_SIZE);
        int inode = ownInode(area, path);
        demandFile(area, inode);
        if (!area.contents.store(inode, at, v)) {
            return giveUp(area);
        }
        return finish(area, area.contents.sizeOf(inode));
    }

    public int truncate(int session, int path, int n) throws IllegalArgumentException, NoSuchElementException,
            IllegalStateException, UnsupportedOperationException {
        Area area = areaOf(session);
        demand(Paths.isPath(path) && n >= 0 && n <= Contents.MAX_SIZE);
        int inode = ownInode(area, path);
        demandFile(area, inode);
        if (n > area.contents.sizeOf(inode)) {
            throw new UnsupportedOperationException("the file is shorter than that");
        }
        return finish(area, area.contents.cut(inode, n));
    }

    public int remove(int session, int path) throws IllegalArgumentException, NoSuchElementException,
            IllegalStateException, UnsupportedOperationException {
        Area area = areaOf(session);
        demand(Paths.isBelowRoot(path));
        int inode = ownInode(area, path);
        if (area.tree.childrenOf(1 << inode) != 0) {
            throw new UnsupportedOperationException("the directory is not empty");
        }
        area.contents.releaseAll(inode);
        area.tree.erase(inode);
        return finish(area, inode);
    }

    public int move(int session, int path, int to) throws IllegalArgumentException, NoSuchElementException,
            IllegalStateException, UnsupportedOperationException {
        Area area = areaOf(session);
        demand(Paths.isBelowRoot(path) && Paths.isBelowRoot(to));
        int inode = ownInode(area, path);
        if (area.tree.find(to) != NONE) {
            throw new IllegalStateException("the area has something there");
        }
        int newParent = Paths.parentOf(to);
        if (area.tree.kindAt(newParent) != DIRECTORY || Paths.startsWith(newParent, path)) {
            throw new UnsupportedOperationException("the new parent is no directory in this area, or is moved itself");
        }
        if (Paths.lengthOf(to) + area.tree.heightOf(inode) > Paths.MAX_NAMES) {
            throw new UnsupportedOperationException("something would be too deep");
        }
        area.tree.hang(inode, area.tree.find(newParent), Paths.lastName(to));
        return finish(area, inode);
    }

    public int read(int session, int path, int a, int at) throws IllegalArgumentException, IllegalStateException,
            NoSuchElementException, UnsupportedOperationException, IndexOutOfBoundsException {
        Area reader = areaOf(session);
        demand(Paths.isPath(path));
        Area area = areaNumbered(a);
        int inode = readableFile(reader, area, path);
        if (at < 0 || at >= area.contents.sizeOf(inode)) {
            throw new IndexOutOfBoundsException("the file has no such word");
        }
        return area.contents.wordOf(inode, at);
    }

    public int list(int session, int path) throws IllegalArgumentException, NoSuchElementException,
            UnsupportedOperationException {
        Area reader = areaOf(session);
        demand(Paths.isPath(path));
        int kinds = kindsSeen(reader.label, path);
        if (kinds == NOTHING) {
            throw new NoSuchElementException("the path is not visible");
        }
        if ((kinds & DIRECTORY) == 0) {
            throw new UnsupportedOperationException("it is a file");
        }
        return namesSeen(reader.label, path);
    }

    public int look(int session, int path) throws IllegalArgumentException {
        Area reader = areaOf(session);
        demand(Paths.isPath(path));
        int seen = 0;
        for (int a = 0; a < MAX_AREAS; a++) {
            if (isOpenTo(reader.label, a)) {
                seen |= areas[a].tree.kindAt(path) << (2 * a);
            }
        }
        return seen;
    }

    public int size(int session, int path, int a) throws IllegalArgumentException, IllegalStateException,
            NoSuchElementException, UnsupportedOperationException {
        Area reader = areaOf(session);
        demand(Paths.isPath(path));
        Area area = areaNumbered(a);
        return area.contents.sizeOf(readableFile(reader, area, path));
    }

    public int crash() {
        return breakDown();
    }

    public boolean tear(int n) throws IllegalArgumentException {
        demand(n >= 0 && n <= LONGEST_FUSE);
        fuse.at = n;
        return true;
    }

    public int disk(int a, int b, int w) throws IllegalArgumentException {
        Area area = areaNumbered(a);
        demand(b >= 0 && b < Disk.BLOCKS && w >= 0 && w < Disk.WORDS);
        return area.disk.wordInPlace(b, w);
    }

    public int about(int a, int what) {
        if (!hasArea(a)) {
            return NONE;
        }
        Area area = areas[a];
        switch (what) {
            case 0: return area.label;
            case 1: return area.contents.countFree();
            case 2: return area.tree.countFree();
            case 3: return area.disk.writes;
            case 4: return area.countSessions();
            default: return NONE;
        }
    }

    public int user(int session) {
        return hasSession(session) ? areas[session / SESSIONS_PER_AREA].users[session % SESSIONS_PER_AREA] : NONE;
    }

    public int fuse() {
        return fuse.at;
    }

    private static void demand(boolean asSaid) {
        if (!asSaid) {
            throw new IllegalArgumentException("an argument is not as the document says");
        }
    }

    private static boolean isUser(int u) {
        return u >= 0 && u < USERS;
    }

    private boolean hasLabel(int label) {
        for (int a = 0; a < MAX_AREAS; a++) {
            if (areas[a] != null && areas[a].label == label) {
                return true;
            }
        }
        return false;
    }

    private boolean hasArea(int a) {
        return a >= 0 && a < MAX_AREAS && areas[a] != null;
    }

    private Area areaNumbered(int a) {
        demand(hasArea(a));
        return areas[a];
    }

    private boolean hasSession(int session) {
        return session >= 0 && hasArea(session / SESSIONS_PER_AREA)
                && areas[session / SESSIONS_PER_AREA].users[session % SESSIONS_PER_AREA] != NONE;
    }

    private Area areaOf(int session) {
        demand(hasSession(session));
        return areas[session / SESSIONS_PER_AREA];
    }

    private boolean isOpenTo(int label, int a) {
        return hasArea(a) && Labels.mayFlow(areas[a].label, label);
    }

    /** The kinds of all that a label sees at a path; DIRECTORY and FILE are different bits. */
    private int kindsSeen(int label, int path) {
        int kinds = NOTHING;
        for (int a = 0; a < MAX_AREAS; a++) {
            if (isOpenTo(label, a)) {
                kinds |= areas[a].tree.kindAt(path);
            }
        }
        return kinds;
    }

    private int namesSeen(int label, int path) {
        int names = 0;
        for (int a = 0; a < MAX_AREAS; a++) {
            if (isOpenTo(label, a)) {
                names |= areas[a].tree.namesAt(path);
            }
        }
        return names;
    }

    private int ownInode(Area area, int path) {
        if (kindsSeen(area.label, path) == NOTHING) {
            throw new NoSuchElementException("the path is not visible");
        }
        int inode = area.tree.find(path);
        if (inode == NONE) {
            throw new IllegalStateException("the path is not in the session's area");
        }
        return inode;
    }

    private static void demandFile(Area area, int inode) {
        if (area.tree.kindOf(inode) != FILE) {
            throw new UnsupportedOperationException("it is a directory");
        }
    }

    private static int readableFile(Area reader, Area area, int path) {
        if (!Labels.mayFlow(area.label, reader.label)) {
            throw new IllegalStateException("the area may not flow to the session");
        }
        int inode = area.tree.find(path);
        if (inode == NONE) {
            throw new NoSuchElementException("nothing is there");
        }
        demandFile(area, inode);
        return inode;
    }

    private static int giveUp(Area area) {
        area.disk.dropDraft();
        return FULL;
    }

    /** Brings to the disk what a call has drafted; the answer stands unless the fuse ends on the way. */
    private int finish(Area area, int answer) {
        if (area.disk.commit(fuse)) {
            return answer;
        }
        breakDown();
        return CRASHED;
    }

    private int breakDown() {
        int ended = 0;
        for (int a = 0; a < MAX_AREAS; a++) {
            if (areas[a] != null) {
                ended += areas[a].countSessions();
                areas[a].dismissAll();
                areas[a].disk.recover();
            }
        }
        fuse.at = NONE;
        return ended;
    }

    /** What may flow where, and who may enter. */
    private static final class Labels {
        private static final int COUNT = 512;
        private static final int SECRECY_LEVEL = 0x003;
        private static final int SECRECY_CATEGORIES = 0x01C;
        private static final int INTEGRITY_LEVEL = 0x060;
        private static final int INTEGRITY_CATEGORIES = 0x180;

        static boolean isLabel(int label) {
            return label >= 0 && label < COUNT;
        }

        static boolean mayFlow(int a, int b) {
            return isSecrecyWithin(a, b) && isIntegrityWithin(b, a);
        }

        /** Unlike a flow, a clearance must cover both sorts in the same direction. */
        static boolean isWithin(int label, int clearance) {
            return isSecrecyWithin(label, clearance) && isIntegrityWithin(label, clearance);
        }

        private static boolean isSecrecyWithin(int a, int b) {
            return (a & SECRECY_LEVEL) <= (b & SECRECY_LEVEL) && (a & ~b & SECRECY_CATEGORIES) == 0;
        }

        private static boolean isIntegrityWithin(int a, int b) {
            return (a & INTEGRITY_LEVEL) <= (b & INTEGRITY_LEVEL) && (a & ~b & INTEGRITY_CATEGORIES) == 0;
        }
    }

    /** Paths as numbers: a name in every 5 bits, the last name lowest. */
    private static final class Paths {
        static final int MAX_NAMES = 4;
        private static final int ROOT = 0;
        private static final int LAST_NAME = 26;
        private static final int NAME_BITS = 5;
        private static final int NAME_MASK = 31;

        static boolean isPath(int path) {
            int rest = path;
            for (int i = 0; i < MAX_NAMES && rest != ROOT; i++) {
                int name = lastName(rest);
                if (name == 0 || name > LAST_NAME) {
                    return false;
                }
                rest = parentOf(rest);
            }
            return rest == ROOT;
        }

        static boolean isBelowRoot(int path) {
            return path != ROOT && isPath(path);
        }

        static int parentOf(int path) {
            return path >> NAME_BITS;
        }

        static int lastName(int path) {
            return path & NAME_MASK;
        }

        static int lengthOf(int path) {
            int length = 0;
            for (int i = 0; i < MAX_NAMES; i++) {
                if (without(path, i) != ROOT) {
                    length++;
                }
            }
            return length;
        }

        /** What is left of a path when this many names at its end are dropped. */
        static int without(int path, int names) {
            return path >> (names * NAME_BITS);
        }

        static boolean startsWith(int path, int start) {
            for (int i = 0; i < MAX_NAMES; i++) {
                if (without(path, i) == start) {
                    return true;
                }
            }
            return false;
        }
    }

    /** Counts the writes that are left before the server crashes. */
    private static final class Fuse {
        int at = NONE;

        /** Whether a write can be made; a burning fuse gets shorter by it. */
        boolean letsPass() {
            if (at == 0) {
                return false;
            }
            if (at > 0) {
                at--;
            }
            return true;
        }
    }

    /** One label's part of the server. */
    private static final class Area {
        final int label;
        final int[] users = new int[SESSIONS_PER_AREA];
        final Disk disk;
        final Tree tree;
        final Contents contents;

        Area(int label, Disk disk) {
            this.label = label;
            this.disk = disk;
            tree = new Tree(disk);
            contents = new Contents(disk);
            Arrays.fill(users, NONE);
        }

        int admit(int u) {
            for (int i = 0; i < SESSIONS_PER_AREA; i++) {
                if (users[i] == NONE) {
                    users[i] = u;
                    return i;
                }
            }
            return NONE;
        }

        int dismiss(int i) {
            int u = users[i];
            users[i] = NONE;
            return u;
        }

        void dismissAll() {
            Arrays.fill(users, NONE);
        }

        int countSessions() {
            int count = 0;
            for (int i = 0; i < SESSIONS_PER_AREA; i++) {
                if (users[i] != NONE) {
                    count++;
                }
            }
            return count;
        }
    }

    /** Blocks in their places, a journal beside them, and the draft that a call works on. */
    private static final class Disk {
        static final int BLOCKS = 29;
        static final int WORDS = 8;
        static final int MAP_BLOCK = 0;
        static final int FIRST_INODE_BLOCK = 1;
        static final int FIRST_DATA_BLOCK = 9;

        private final int[] places = new int[BLOCKS * WORDS];
        // Between calls the draft has the words of the places, so that a look into it is always right.
        private final int[] draft = new int[BLOCKS * WORDS];
        private final int[] journal = new int[BLOCKS * WORDS];
        private int journaled = 0;
        private boolean marked = false;
        int writes = 0;

        Disk() {
            places[FIRST_INODE_BLOCK * WORDS] = DIRECTORY;
            draft[FIRST_INODE_BLOCK * WORDS] = DIRECTORY;
        }

        int wordInPlace(int block, int word) {
            return places[block * WORDS + word];
        }

        int get(int block, int word) {
            return draft[block * WORDS + word];
        }

        void put(int block, int word, int v) {
            draft[block * WORDS + word] = v;
        }

        int inodeWord(int inode, int word) {
            return draft[(FIRST_INODE_BLOCK + inode) * WORDS + word];
        }

        void putInodeWord(int inode, int word, int v) {
            draft[(FIRST_INODE_BLOCK + inode) * WORDS + word] = v;
        }

        void zeroFrom(int block, int firstWord) {
            for (int w = firstWord; w < WORDS; w++) {
                draft[block * WORDS + w] = 0;
            }
        }

        void dropDraft() {
            System.arraycopy(places, 0, draft, 0, BLOCKS * WORDS);
        }

        /** Writes what is drafted; false when the fuse ended on the way, and recover() is due. */
        boolean commit(Fuse fuse) {
            int changed = changedBlocks();
            if (changed == 0) {
                return true;
            }
            return fillJournal(changed, fuse) && setMark(true, fuse) && fillPlaces(fuse) && setMark(false, fuse);
        }

        void recover() {
            if (marked) {
                for (int b = 0; b < BLOCKS; b++) {
                    if (isIn(journaled, b)) {
                        copyBlock(journal, places, b);
                    }
                }
            }
            marked = false;
            dropDraft();
        }

        private int changedBlocks() {
            int changed = 0;
            for (int i = 0; i < BLOCKS * WORDS; i++) {
                if (draft[i] != places[i]) {
                    changed |= 1 << (i / WORDS);
                }
            }
            return changed;
        }

        private boolean fillJournal(int changed, Fuse fuse) {
            journaled = 0;
            for (int b = 0; b < BLOCKS; b++) {
                if (isIn(changed, b)) {
                    if (!countWrite(fuse)) {
                        return false;
                    }
                    copyBlock(draft, journal, b);
                    journaled |= 1 << b;
                }
            }
            return true;
        }

        private boolean fillPlaces(Fuse fuse) {
            for (int b = 0; b < BLOCKS; b++) {
                if (isIn(journaled, b)) {
                    if (!countWrite(fuse)) {
                        return false;
                    }
                    copyBlock(journal, places, b);
                }
            }
            return true;
        }

        private boolean setMark(boolean there, Fuse fuse) {
            if (!countWrite(fuse)) {
                return false;
            }
            marked = there;
            return true;
        }

        private boolean countWrite(Fuse fuse) {
            if (!fuse.letsPass()) {
                return false;
            }
            writes++;
            return true;
        }

        private static boolean isIn(int blocks, int b) {
            return (blocks >> b & 1) != 0;
        }

        private static void copyBlock(int[] from, int[] to, int b) {
            System.arraycopy(from, b * WORDS, to, b * WORDS, WORDS);
        }
    }

    /** The inodes of a disk as files and directories with parents and names. */
    private static final class Tree {
        private static final int INODES = 8;
        private static final int ROOT = 0;
        private static final int KIND = 0;
        private static final int PARENT = 1;
        private static final int NAME = 2;

        private final Disk disk;

        Tree(Disk disk) {
            this.disk = disk;
        }

        int kindOf(int inode) {
            return disk.inodeWord(inode, KIND);
        }

        private int parentOf(int inode) {
            return disk.inodeWord(inode, PARENT);
        }

        private int nameOf(int inode) {
            return disk.inodeWord(inode, NAME);
        }

        int find(int path) {
            int inode = ROOT;
            for (int i = Paths.lengthOf(path) - 1; i >= 0 && inode != NONE; i--) {
                inode = childNamed(inode, Paths.lastName(Paths.without(path, i)));
            }
            return inode;
        }

        int kindAt(int path) {
            int inode = find(path);
            return inode == NONE ? NOTHING : kindOf(inode);
        }

        boolean hasFileAbove(int path) {
            for (int i = 1; i < Paths.MAX_NAMES; i++) {
                if (kindAt(Paths.without(path, i)) == FILE) {
                    return true;
                }
            }
            return false;
        }

        /** Makes what a path says, and the directories on the way; NONE when the inodes run out. */
        int create(int path, int kind) {
            int inode = ROOT;
            for (int i = Paths.lengthOf(path) - 1; i >= 0 && inode != NONE; i--) {
                int name = Paths.lastName(Paths.without(path, i));
                int child = childNamed(inode, name);
                if (child == NONE) {
                    child = take(i == 0 ? kind : DIRECTORY, inode, name);
                }
                inode = child;
            }
            return inode;
        }

        void hang(int inode, int parent, int name) {
            disk.putInodeWord(inode, PARENT, parent);
            disk.putInodeWord(inode, NAME, name);
        }

        void erase(int inode) {
            disk.zeroFrom(Disk.FIRST_INODE_BLOCK + inode, 0);
        }

        /** The names (as bits) of what is in the directory at a path; there is nothing in a file. */
        int namesAt(int path) {
            int inode = find(path);
            int names = 0;
            for (int i = 1; i < INODES; i++) {
                if (kindOf(i) != NOTHING && parentOf(i) == inode) {
                    names |= 1 << (nameOf(i) - 1);
                }
            }
            return names;
        }

        /** The inodes (as bits) whose parents are among some inodes (as bits). */
        int childrenOf(int parents) {
            int children = 0;
            for (int i = 1; i < INODES; i++) {
                if (kindOf(i) != NOTHING && (parents >> parentOf(i) & 1) != 0) {
                    children |= 1 << i;
                }
            }
            return children;
        }

        /** How many names deeper than an inode the deepest thing in it is. */
        int heightOf(int inode) {
            int height = 0;
            int level = childrenOf(1 << inode);
            for (int i = 0; i < INODES && level != 0; i++) {
                height++;
                level = childrenOf(level);
            }
            return height;
        }

        int countFree() {
            int count = 0;
            for (int i = 0; i < INODES; i++) {
                if (kindOf(i) == NOTHING) {
                    count++;
                }
            }
            return count;
        }

        private int childNamed(int parent, int name) {
            for (int i = 1; i < INODES; i++) {
                if (disk.inodeWord(i, PARENT) == parent && disk.inodeWord(i, NAME) == name) {
                    return i;
                }
            }
            return NONE;
        }

        private int take(int kind, int parent, int name) {
            for (int i = 1; i < INODES; i++) {
                if (kindOf(i) == NOTHING) {
                    disk.putInodeWord(i, KIND, kind);
                    hang(i, parent, name);
                    return i;
                }
            }
            return NONE;
        }
    }

    /** The words of files in the data blocks of a disk. */
    private static final class Contents {
        static final int MAX_SIZE = 80;
        private static final int FILE_BLOCKS = 10;
        private static final int DATA_BLOCKS = 20;
        private static final int DIRECT_BLOCKS = 2;
        private static final int SIZE = 3;
        private static final int FIRST_POINTER = 4;
        private static final int INDIRECT_POINTER = 6;
        private static final int NO_POINTER = 0;

        private final Disk disk;

        Contents(Disk disk) {
            this.disk = disk;
        }

        int sizeOf(int inode) {
            return disk.inodeWord(inode, SIZE);
        }

        int wordOf(int inode, int at) {
            int block = blockBehind(pointerTo(inode, at / Disk.WORDS));
            return block == NONE ? 0 : disk.get(block, at % Disk.WORDS);
        }

        /** Puts a word into a file; false when the data blocks run out. */
        boolean store(int inode, int at, int v) {
            int block = takenBlock(inode, at / Disk.WORDS);
            if (block == NONE) {
                return false;
            }
            disk.put(block, at % Disk.WORDS, v);
            if (sizeOf(inode) <= at) {
                disk.putInodeWord(inode, SIZE, at + 1);
            }
            return true;
        }

        /** Shortens a file to n words; answers how many data blocks that made free. */
        int cut(int inode, int n) {
            int freed = 0;
            for (int k = (n + Disk.WORDS - 1) / Disk.WORDS; k < FILE_BLOCKS; k++) {
                freed += dropPointer(holderOf(inode, k), wordInHolder(k));
            }
            if (isIndirectEmpty(inode)) {
                freed += dropPointer(Disk.FIRST_INODE_BLOCK + inode, INDIRECT_POINTER);
            }
            zeroBehind(inode, n);
            disk.putInodeWord(inode, SIZE, n);
            return freed;
        }

        /** The blocks of a file are free then, but their words stay, those of the indirect block too. */
        void releaseAll(int inode) {
            for (int k = 0; k < FILE_BLOCKS; k++) {
                release(pointerTo(inode, k));
            }
            release(disk.inodeWord(inode, INDIRECT_POINTER));
        }

        int countFree() {
            return DATA_BLOCKS - Integer.bitCount(disk.get(Disk.MAP_BLOCK, 0));
        }

        private static int blockBehind(int pointer) {
            return pointer < 1 || pointer > DATA_BLOCKS ? NONE : Disk.FIRST_DATA_BLOCK + pointer - 1;
        }

        /** The block that has the pointer to block k of a file: its inode's or the indirect one. */
        private int holderOf(int inode, int k) {
            int inodeBlock = Disk.FIRST_INODE_BLOCK + inode;
            return k < DIRECT_BLOCKS ? inodeBlock : blockBehind(disk.get(inodeBlock, INDIRECT_POINTER));
        }

        private static int wordInHolder(int k) {
            return k < DIRECT_BLOCKS ? FIRST_POINTER + k : k - DIRECT_BLOCKS;
        }

        private int pointerTo(int inode, int k) {
            int holder = holderOf(inode, k);
            return holder == NONE ? NO_POINTER : disk.get(holder, wordInHolder(k));
        }

        /** Block k of a file, taken if it has none yet, behind the indirect one if that is needed. */
        private int takenBlock(int inode, int k) {
            if (k >= DIRECT_BLOCKS) {
                takeBehind(Disk.FIRST_INODE_BLOCK + inode, INDIRECT_POINTER);
            }
            int holder = holderOf(inode, k);
            return holder == NONE ? NONE : takeBehind(holder, wordInHolder(k));
        }

        private int takeBehind(int holder, int word) {
            if (disk.get(holder, word) == NO_POINTER) {
                disk.put(holder, word, takePointer());
            }
            return blockBehind(disk.get(holder, word));
        }

        private int takePointer() {
            int map = disk.get(Disk.MAP_BLOCK, 0);
            for (int i = 0; i < DATA_BLOCKS; i++) {
                if ((map >> i & 1) == 0) {
                    disk.put(Disk.MAP_BLOCK, 0, map | 1 << i);
                    disk.zeroFrom(Disk.FIRST_DATA_BLOCK + i, 0);
                    return i + 1;
                }
            }
            return NO_POINTER;
        }

        private int dropPointer(int holder, int word) {
            if (holder == NONE) {
                return 0;
            }
            int freed = release(disk.get(holder, word));
            disk.put(holder, word, NO_POINTER);
            return freed;
        }

        private int release(int pointer) {
            if (blockBehind(pointer) == NONE) {
                return 0;
            }
            disk.put(Disk.MAP_BLOCK, 0, disk.get(Disk.MAP_BLOCK, 0) & ~(1 << (pointer - 1)));
            return 1;
        }

        private boolean isIndirectEmpty(int inode) {
            int indirect = blockBehind(disk.inodeWord(inode, INDIRECT_POINTER));
            if (indirect == NONE) {
                return false;
            }
            for (int w = 0; w < Disk.WORDS; w++) {
                if (disk.get(indirect, w) != NO_POINTER) {
                    return false;
                }
            }
            return true;
        }

        /** Without this a file that grows again would show words that were cut off. */
        private void zeroBehind(int inode, int n) {
            if (n % Disk.WORDS != 0) {
                int block = blockBehind(pointerTo(inode, n / Disk.WORDS));
                if (block != NONE) {
                    disk.zeroFrom(block, n % Disk.WORDS);
                }
            }
        }
    }
}
