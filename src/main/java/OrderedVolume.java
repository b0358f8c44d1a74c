/** A file system of three groups that keeps its disk sound without a log. */
public final class OrderedVolume {
    public static final int NONE = -1;
    public static final int EXISTS = -2;
    public static final int FULL = -3;
    public static final int BUSY = -4;

    private static final int GROUPS = 3;
    private static final int BLOCKS = 36;
    private static final int GROUP_BLOCKS = 12;
    private static final int FIRST_DATA = 2;
    private static final int INODES = 18;
    private static final int GROUP_INODES = 6;
    private static final int MAP_CELLS = 16;
    private static final int TABLE_CELLS = 30;
    private static final int INODE_CELLS = 5;
    private static final int DATA_CELLS = 8;
    private static final int POINTERS = 3;
    private static final int WORDS = 24;
    private static final int LAST_NAME = 999;
    private static final int NAME_UNIT = 32;
    private static final int ROOT = 0;
    private static final int FILE = 1;
    private static final int DIRECTORY = 2;
    private static final int FALLEN = 1;
    private static final int RELEASED = 2;
    // The document tells no bound for these: a SYNC needs some tens of passes at the very most.
    private static final int MOST_PASSES = 100000;
    private static final int MOST_ROUNDS = 1000;

    private final Store memory = new Store();
    private final Store disk = new Store();
    /** For each data block the bits of the cells whose entries are YOUNG. */
    private final int[] young = new int[BLOCKS];
    /** For each block 0, or when it is DROPPED the KIND of the inode that had it. */
    private final int[] dropped = new int[BLOCKS];
    /** For each inode 0, FALLEN (LINKS reached 0, not yet released) or RELEASED. */
    private final int[] leaving = new int[INODES];
    private boolean directoryRenamed = false;

    public OrderedVolume() {
    }

    public int create(int d, int name, boolean directory) {
        if (!isTreeDirectory(d) || !isName(name)) {
            return NONE;
        }
        int refusal = refusalOfEntry(d, name);
        if (refusal != 0) {
            return refusal;
        }
        if (lacksForNew(d, directory)) {
            makeAlike();
            if (lacksForNew(d, directory)) {
                return FULL;
            }
        }
        int i = memory.freeInode(directory ? memory.roomiestGroup() : d / GROUP_INODES);
        memory.setInodeMark(i, 1);
        memory.setKind(i, directory ? DIRECTORY : FILE);
        if (directory) {
            int b = memory.freeBlock(i / GROUP_INODES);
            takeBlock(b);
            memory.setPointer(i, 0, b);
        }
        makeEntry(d, placeIn(d), NAME_UNIT * name + i);
        return i;
    }

    public int link(int d, int name, int i) {
        if (!isTreeDirectory(d) || !isName(name) || !isTreeFile(i)) {
            return NONE;
        }
        int refusal = refusalOfEntry(d, name);
        if (refusal != 0) {
            return refusal;
        }
        if (placeIn(d) == NONE) {
            makeAlike();
        }
        int place = placeIn(d);
        if (place == NONE) {
            return FULL;
        }
        makeEntry(d, place, NAME_UNIT * name + i);
        return memory.links(i);
    }

    public int remove(int d, int name) {
        if (!isTreeDirectory(d)) {
            return NONE;
        }
        int cell = memory.cellOfName(d, name);
        if (cell == NONE) {
            return NONE;
        }
        int i = memory.entry(d, cell) % NAME_UNIT;
        if (memory.entryCount(i) > 0) {
            return BUSY;
        }
        takeEntryAway(d, cell);
        return i;
    }

    public int rename(int d, int name, int e, int newName) {
        if (!isTreeDirectory(d) || !isTreeDirectory(e) || !isName(newName)) {
            return NONE;
        }
        int cell = memory.cellOfName(d, name);
        if (cell == NONE) {
            return NONE;
        }
        int i = memory.entry(d, cell) % NAME_UNIT;
        boolean directory = memory.kind(i) == DIRECTORY;
        if (memory.cellOfName(e, newName) != NONE) {
            return EXISTS;
        }
        if (directory && has(memory.reach(i), e)) {
            return BUSY;
        }
        if (memory.entryCount(e) == DATA_CELLS) {
            return FULL;
        }
        if (placeIn(e) == NONE) {
            makeAlike();
        }
        int place = placeIn(e);
        if (place == NONE) {
            return FULL;
        }
        makeEntry(e, place, NAME_UNIT * newName + i);
        takeEntryAway(d, cell);
        directoryRenamed = directoryRenamed || directory;
        return i;
    }

    public int write(int i, int w, int v) {
        if (!isTreeFile(i) || !isWord(w)) {
            return NONE;
        }
        int k = w / DATA_CELLS;
        if (memory.pointer(i, k) == 0) {
            int free = blockForPointer(i, k);
            if (free == NONE) {
                makeAlike();
                free = blockForPointer(i, k);
            }
            if (free == NONE) {
                return FULL;
            }
            takeBlock(free);
            memory.setPointer(i, k, free);
        }
        int b = memory.pointer(i, k);
        memory.setWord(b, w % DATA_CELLS, v);
        return b;
    }

    public int read(int i, int w) {
        if (!isTreeFile(i) || !isWord(w)) {
            return 0;
        }
        int b = memory.pointer(i, w / DATA_CELLS);
        return b == 0 ? 0 : memory.word(b, w % DATA_CELLS);
    }

    public int cut(int i, int n) {
        if (!isTreeFile(i) || n < 0 || n > POINTERS) {
            return NONE;
        }
        int count = dropPointers(i, n);
        giveBack();
        return count;
    }

    public int lookup(int d, int name) {
        if (!isTreeDirectory(d)) {
            return NONE;
        }
        int cell = memory.cellOfName(d, name);
        return cell == NONE ? NONE : memory.entry(d, cell) % NAME_UNIT;
    }

    public int flush(int b) {
        if (b < 0 || b >= BLOCKS) {
            return NONE;
        }
        return writeBack(b);
    }

    public int sync() {
        return makeAlike();
    }

    public boolean crash() {
        if (directoryRenamed) {
            return false;
        }
        for (int b = 0; b < BLOCKS; b++) {
            memory.copyBlock(disk, b);
            disk.setBlank(b, false);
            young[b] = 0;
            dropped[b] = 0;
        }
        for (int i = 0; i < INODES; i++) {
            leaving[i] = 0;
        }
        return true;
    }

    public int reclaim() {
        makeAlike();
        int tree = memory.reach(ROOT);
        int unmarked = 0;
        for (int i = 0; i < INODES; i++) {
            if (!has(tree, i)) {
                unmarked += memory.inodeMark(i);
                memory.wipeInode(i);
            } else if (i != ROOT) {
                memory.setLinks(i, memory.entriesFor(tree, i));
            }
        }
        for (int b = 0; b < BLOCKS; b++) {
            if (isData(b) && memory.pointersTo(tree, b) == 0) {
                unmarked += memory.blockMark(b);
                memory.setBlockMark(b, 0);
            }
        }
        for (int b = 0; b < BLOCKS; b++) {
            if (!isData(b)) {
                disk.copyBlock(memory, b);
            }
        }
        return unmarked;
    }

    public int defects(int kind) {
        int tree = disk.reach(ROOT);
        switch (kind) {
            case 0:
                return disk.badEntries(tree) + disk.badPointers(tree);
            case 1:
                return disk.sharedBlocks(tree);
            case 2:
                return disk.uselessBlocks(tree);
            case 3:
                return disk.uselessInodes(tree);
            case 4:
                return disk.wrongLinks(tree, 1);
            case 5:
                return disk.wrongLinks(tree, -1);
            default:
                return NONE;
        }
    }

    public int image(int b, int cell) {
        return isCell(b, cell) ? disk.cell(b, cell) : 0;
    }

    public int cached(int b, int cell) {
        return isCell(b, cell) ? memory.cell(b, cell) : 0;
    }

    private static boolean isName(int name) {
        return name >= 1 && name <= LAST_NAME;
    }

    private static boolean isWord(int w) {
        return w >= 0 && w < WORDS;
    }

    private static boolean isData(int b) {
        return b % GROUP_BLOCKS >= FIRST_DATA;
    }

    private static boolean isCell(int b, int cell) {
        return b >= 0 && b < BLOCKS && cell >= 0 && cell < cellCount(b);
    }

    private static int cellCount(int b) {
        int part = b % GROUP_BLOCKS;
        return part == 0 ? MAP_CELLS : part == 1 ? TABLE_CELLS : DATA_CELLS;
    }

    private static boolean has(int set, int i) {
        return (set >> i & 1) == 1;
    }

    private boolean isTreeDirectory(int d) {
        return isInTree(d) && memory.kind(d) == DIRECTORY;
    }

    private boolean isTreeFile(int i) {
        return isInTree(i) && memory.kind(i) == FILE;
    }

    private boolean isInTree(int i) {
        return i >= 0 && i < INODES && has(memory.reach(ROOT), i);
    }

    /** EXISTS or FULL when d can't have one more entry with that name, otherwise 0. */
    private int refusalOfEntry(int d, int name) {
        if (memory.cellOfName(d, name) != NONE) {
            return EXISTS;
        }
        return memory.entryCount(d) == DATA_CELLS ? FULL : 0;
    }

    private boolean lacksForNew(int d, boolean directory) {
        return placeIn(d) == NONE
            || memory.freeInode(0) == NONE
            || directory && memory.freeBlock(0) == NONE;
    }

    /** The PLACE for a new entry of d, or NONE: a cell that the disk still uses is not one. */
    private int placeIn(int d) {
        int b = memory.pointer(d, 0);
        if (b == 0) {
            return NONE;
        }
        for (int c = 0; c < DATA_CELLS; c++) {
            if (memory.word(b, c) == 0 && disk.word(b, c) == 0) {
                return c;
            }
        }
        return NONE;
    }

    /** The block to take for pointer k of the file i: beside the one before it if it can be. */
    private int blockForPointer(int i, int k) {
        int before = k > 0 ? memory.pointer(i, k - 1) : 0;
        if (before != 0) {
            int next = before + 1;
            if (next < BLOCKS && isData(next) && memory.blockMark(next) == 0) {
                return next;
            }
        }
        return memory.freeBlock(i / GROUP_INODES);
    }

    private void takeBlock(int b) {
        memory.setBlockMark(b, 1);
        memory.clearWords(b);
        disk.setBlank(b, true);
        young[b] = 0;
    }

    private void makeEntry(int d, int c, int entry) {
        int b = memory.pointer(d, 0);
        int i = entry % NAME_UNIT;
        memory.setWord(b, c, entry);
        young[b] |= 1 << c;
        memory.setLinks(i, memory.links(i) + 1);
    }

    private void takeEntryAway(int d, int c) {
        int b = memory.pointer(d, 0);
        int i = memory.word(b, c) % NAME_UNIT;
        memory.setWord(b, c, 0);
        young[b] &= ~(1 << c);
        // A cell that the disk still has keeps its count until writeDirectory or freeBlock ends it.
        if (disk.word(b, c) == 0) {
            lowerLinks(i);
            giveBack();
        }
    }

    private void lowerLinks(int i) {
        if (i == ROOT) {
            return;
        }
        int links = memory.links(i) - 1;
        memory.setLinks(i, links);
        if (links == 0) {
            leaving[i] = FALLEN;
        }
    }

    /** Drops the blocks of i from pointer n on; answers how many. */
    private int dropPointers(int i, int n) {
        int count = 0;
        for (int k = n; k < POINTERS; k++) {
            int b = memory.pointer(i, k);
            if (b != 0) {
                dropped[b] = memory.kind(i);
                memory.setPointer(i, k, 0);
                count++;
            }
        }
        return count;
    }

    /** Takes every step of giving back that is possible now, and those that these make possible. */
    private void giveBack() {
        boolean moved = true;
        for (int round = 0; moved && round < MOST_ROUNDS; round++) {
            moved = false;
            for (int i = 0; i < INODES; i++) {
                if (leaving[i] != 0) {
                    giveInodeBack(i);
                }
            }
            for (int b = 0; b < BLOCKS; b++) {
                if (dropped[b] != 0 && disk.namer(b) == NONE) {
                    freeBlock(b);
                    moved = true;
                }
            }
        }
    }

    private void giveInodeBack(int i) {
        if (leaving[i] == FALLEN) {
            dropPointers(i, 0);
            memory.setKind(i, 0);
            leaving[i] = RELEASED;
        }
        if (disk.kind(i) == 0) {
            memory.setInodeMark(i, 0);
            leaving[i] = 0;
        }
    }

    private void freeBlock(int b) {
        if (dropped[b] == DIRECTORY) {
            for (int c = 0; c < DATA_CELLS; c++) {
                int entry = disk.word(b, c);
                if (entry != 0) {
                    lowerLinks(entry % NAME_UNIT);
                }
            }
        }
        dropped[b] = 0;
        memory.setBlockMark(b, 0);
    }

    /** A SYNC; answers its passes. */
    private int makeAlike() {
        int passes = 0;
        while (passes < MOST_PASSES && !areAlike()) {
            for (int b = 0; b < BLOCKS; b++) {
                writeBack(b);
            }
            passes++;
        }
        directoryRenamed = false;
        return passes;
    }

    private boolean areAlike() {
        for (int b = 0; b < BLOCKS; b++) {
            if (isData(b) && memory.namer(b) == NONE) {
                continue;
            }
            if (disk.isBlank(b) || !memory.sameBlock(disk, b)) {
                return false;
            }
        }
        return true;
    }

    /** Writes block b back; answers how many cells were held back. */
    private int writeBack(int b) {
        int held = 0;
        int part = b % GROUP_BLOCKS;
        int owner = isData(b) ? memory.namer(b) : NONE;
        int ownerKind = owner == NONE ? 0 : memory.kind(owner);
        if (part == 0 || ownerKind == FILE) {
            disk.copyBlock(memory, b);
            disk.setBlank(b, false);
        } else if (part == 1) {
            held = writeTable(b / GROUP_BLOCKS);
        } else if (ownerKind == DIRECTORY) {
            held = writeDirectory(b);
        }
        // Only at the end: no later cell of the block asks for what is given back by an earlier one.
        giveBack();
        return held;
    }

    private int writeTable(int group) {
        int held = 0;
        int first = group * GROUP_INODES;
        for (int i = first; i < first + GROUP_INODES; i++) {
            disk.setKind(i, memory.kind(i));
            disk.setLinks(i, memory.links(i));
            for (int k = 0; k < POINTERS; k++) {
                int b = memory.pointer(i, k);
                if (b != disk.pointer(i, k) && isNotOnDisk(b)) {
                    held++;
                } else {
                    disk.setPointer(i, k, b);
                }
            }
        }
        endYouth(group);
        return held;
    }

    private boolean isNotOnDisk(int b) {
        return b != 0 && (disk.blockMark(b) == 0 || disk.isBlank(b));
    }

    /** Entries for inodes of the group are YOUNG no more, now that the disk has their LINKS. */
    private void endYouth(int group) {
        for (int b = 0; b < BLOCKS; b++) {
            if (young[b] == 0) {
                continue;
            }
            for (int c = 0; c < DATA_CELLS; c++) {
                int i = memory.word(b, c) % NAME_UNIT;
                if (has(young[b], c) && i / GROUP_INODES == group) {
                    young[b] &= ~(1 << c);
                }
            }
        }
    }

    private int writeDirectory(int b) {
        if (disk.isBlank(b)) {
            disk.clearWords(b);
            disk.setBlank(b, false);
        }
        int held = 0;
        for (int c = 0; c < DATA_CELLS; c++) {
            int now = memory.word(b, c);
            int before = disk.word(b, c);
            if (now == before) {
                continue;
            }
            if (now != 0 ? mustWait(b, c) : mustStay(b, c)) {
                held++;
                continue;
            }
            disk.setWord(b, c, now);
            if (now == 0) {
                lowerLinks(before % NAME_UNIT);
            }
        }
        return held;
    }

    /** Whether the disk would point to what is not there yet, if it had this entry of memory. */
    private boolean mustWait(int b, int c) {
        int i = memory.word(b, c) % NAME_UNIT;
        return has(young[b], c)
            || disk.inodeMark(i) == 0
            || memory.kind(i) == DIRECTORY && disk.pointer(i, 0) == 0;
    }

    /** Whether the disk would lose the last way to something, if it lost this entry. */
    private boolean mustStay(int b, int c) {
        int entry = disk.word(b, c);
        int with = disk.reach(ROOT);
        disk.setWord(b, c, 0);
        int without = disk.reach(ROOT);
        disk.setWord(b, c, entry);
        return (with & ~without & memory.reach(ROOT)) != 0;
    }

    /** All cells, as memory or as the disk holds them. Sets of inodes are ints with a bit for each. */
    private static final class Store {
        private final int[] maps = new int[GROUPS * MAP_CELLS];
        private final int[] tables = new int[GROUPS * TABLE_CELLS];
        private final int[] words = new int[BLOCKS * DATA_CELLS];
        /** The FRESH blocks: only the disk has some, and their cells count as 0 there. */
        private final boolean[] blank = new boolean[BLOCKS];
        private final int[] queue = new int[INODES];

        Store() {
            setInodeMark(ROOT, 1);
            setBlockMark(FIRST_DATA, 1);
            setKind(ROOT, DIRECTORY);
            setLinks(ROOT, 1);
            setPointer(ROOT, 0, FIRST_DATA);
        }

        /** The cell as it stands there, blank or not. */
        int cell(int b, int c) {
            int group = b / GROUP_BLOCKS;
            int part = b % GROUP_BLOCKS;
            if (part == 0) {
                return maps[group * MAP_CELLS + c];
            }
            return part == 1 ? tables[group * TABLE_CELLS + c] : words[b * DATA_CELLS + c];
        }

        void setCell(int b, int c, int v) {
            int group = b / GROUP_BLOCKS;
            int part = b % GROUP_BLOCKS;
            if (part == 0) {
                maps[group * MAP_CELLS + c] = v;
            } else if (part == 1) {
                tables[group * TABLE_CELLS + c] = v;
            } else {
                words[b * DATA_CELLS + c] = v;
            }
        }

        void copyBlock(Store from, int b) {
            int count = cellCount(b);
            for (int c = 0; c < count; c++) {
                setCell(b, c, from.cell(b, c));
            }
        }

        boolean sameBlock(Store other, int b) {
            int count = cellCount(b);
            for (int c = 0; c < count; c++) {
                if (cell(b, c) != other.cell(b, c)) {
                    return false;
                }
            }
            return true;
        }

        int word(int b, int c) {
            return blank[b] ? 0 : words[b * DATA_CELLS + c];
        }

        void setWord(int b, int c, int v) {
            words[b * DATA_CELLS + c] = v;
        }

        void clearWords(int b) {
            for (int c = 0; c < DATA_CELLS; c++) {
                words[b * DATA_CELLS + c] = 0;
            }
        }

        boolean isBlank(int b) {
            return blank[b];
        }

        void setBlank(int b, boolean v) {
            blank[b] = v;
        }

        int inodeMark(int i) {
            return maps[i / GROUP_INODES * MAP_CELLS + i % GROUP_INODES];
        }

        void setInodeMark(int i, int v) {
            maps[i / GROUP_INODES * MAP_CELLS + i % GROUP_INODES] = v;
        }

        int blockMark(int b) {
            return maps[b / GROUP_BLOCKS * MAP_CELLS + GROUP_INODES + b % GROUP_BLOCKS - FIRST_DATA];
        }

        void setBlockMark(int b, int v) {
            maps[b / GROUP_BLOCKS * MAP_CELLS + GROUP_INODES + b % GROUP_BLOCKS - FIRST_DATA] = v;
        }

        int kind(int i) {
            return tables[i * INODE_CELLS];
        }

        void setKind(int i, int v) {
            tables[i * INODE_CELLS] = v;
        }

        int links(int i) {
            return tables[i * INODE_CELLS + 1];
        }

        void setLinks(int i, int v) {
            tables[i * INODE_CELLS + 1] = v;
        }

        int pointer(int i, int k) {
            return tables[i * INODE_CELLS + 2 + k];
        }

        void setPointer(int i, int k, int v) {
            tables[i * INODE_CELLS + 2 + k] = v;
        }

        void wipeInode(int i) {
            setInodeMark(i, 0);
            for (int c = 0; c < INODE_CELLS; c++) {
                tables[i * INODE_CELLS + c] = 0;
            }
        }

        /** The entry in a cell of d; 0 too when d is no directory or has no block. */
        int entry(int d, int c) {
            int b = tables[d * INODE_CELLS] == DIRECTORY ? tables[d * INODE_CELLS + 2] : 0;
            return b == 0 || blank[b] ? 0 : words[b * DATA_CELLS + c];
        }

        int entryCount(int d) {
            int count = 0;
            for (int c = 0; c < DATA_CELLS; c++) {
                if (entry(d, c) != 0) {
                    count++;
                }
            }
            return count;
        }

        int cellOfName(int d, int name) {
            if (!isName(name)) {
                return NONE;
            }
            for (int c = 0; c < DATA_CELLS; c++) {
                if (entry(d, c) / NAME_UNIT == name) {
                    return c;
                }
            }
            return NONE;
        }

        /** The least inode with a pointer to b, or NONE. */
        int namer(int b) {
            for (int i = 0; i < INODES; i++) {
                for (int k = 0; k < POINTERS; k++) {
                    if (pointer(i, k) == b) {
                        return i;
                    }
                }
            }
            return NONE;
        }

        /** The set of the inode start and all that entries lead to from it. */
        int reach(int start) {
            int seen = 1 << start;
            int size = 1;
            queue[0] = start;
            for (int n = 0; n < size && n < INODES; n++) {
                for (int c = 0; c < DATA_CELLS; c++) {
                    int entry = entry(queue[n], c);
                    int i = entry % NAME_UNIT;
                    if (entry != 0 && i < INODES && !has(seen, i)) {
                        seen |= 1 << i;
                        queue[size] = i;
                        size++;
                    }
                }
            }
            return seen;
        }

        boolean isFreeInode(int i) {
            return inodeMark(i) == 0 && kind(i) == 0;
        }

        /** The least free inode of the group, or else of the groups after it, or NONE. */
        int freeInode(int group) {
            for (int n = 0; n < GROUPS; n++) {
                int first = (group + n) % GROUPS * GROUP_INODES;
                for (int i = first; i < first + GROUP_INODES; i++) {
                    if (isFreeInode(i)) {
                        return i;
                    }
                }
            }
            return NONE;
        }

        int roomiestGroup() {
            int best = 0;
            int most = 0;
            for (int group = 0; group < GROUPS; group++) {
                int count = 0;
                for (int n = 0; n < GROUP_INODES; n++) {
                    count += isFreeInode(group * GROUP_INODES + n) ? 1 : 0;
                }
                if (count > most) {
                    best = group;
                    most = count;
                }
            }
            return best;
        }

        /** The least free data block of the group, or else of the groups after it, or NONE. */
        int freeBlock(int group) {
            for (int n = 0; n < GROUPS; n++) {
                int first = (group + n) % GROUPS * GROUP_BLOCKS;
                for (int b = first + FIRST_DATA; b < first + GROUP_BLOCKS; b++) {
                    if (blockMark(b) == 0) {
                        return b;
                    }
                }
            }
            return NONE;
        }

        /** How many entries of directories of the tree name i. */
        int entriesFor(int tree, int i) {
            int count = 0;
            for (int d = 0; d < INODES; d++) {
                if (!has(tree, d)) {
                    continue;
                }
                for (int c = 0; c < DATA_CELLS; c++) {
                    int entry = entry(d, c);
                    if (entry != 0 && entry % NAME_UNIT == i) {
                        count++;
                    }
                }
            }
            return count;
        }

        /** How many pointers of inodes of the tree name b. */
        int pointersTo(int tree, int b) {
            int count = 0;
            for (int i = 0; i < INODES; i++) {
                for (int k = 0; k < POINTERS; k++) {
                    if (has(tree, i) && pointer(i, k) == b) {
                        count++;
                    }
                }
            }
            return count;
        }

        int badEntries(int tree) {
            int count = 0;
            for (int i = 0; i < INODES; i++) {
                if (kind(i) == 0 || inodeMark(i) == 0) {
                    count += entriesFor(tree, i);
                }
            }
            return count;
        }

        int badPointers(int tree) {
            int count = 0;
            for (int b = 0; b < BLOCKS; b++) {
                if (isData(b) && blockMark(b) == 0) {
                    count += pointersTo(tree, b);
                }
            }
            return count;
        }

        int sharedBlocks(int tree) {
            int count = 0;
            for (int b = 0; b < BLOCKS; b++) {
                if (isData(b) && pointersTo(tree, b) > 1) {
                    count++;
                }
            }
            return count;
        }

        int uselessBlocks(int tree) {
            int count = 0;
            for (int b = 0; b < BLOCKS; b++) {
                if (isData(b) && blockMark(b) != 0 && pointersTo(tree, b) == 0) {
                    count++;
                }
            }
            return count;
        }

        int uselessInodes(int tree) {
            int count = 0;
            for (int i = 0; i < INODES; i++) {
                if (!has(tree, i) && (kind(i) != 0 || inodeMark(i) != 0)) {
                    count++;
                }
            }
            return count;
        }

        /** Inodes of the tree whose LINKS are too many (sign 1) or too few (sign -1). */
        int wrongLinks(int tree, int sign) {
            int count = 0;
            for (int i = 1; i < INODES; i++) {
                if (has(tree, i) && (links(i) - entriesFor(tree, i)) * sign > 0) {
                    count++;
                }
            }
            return count;
        }
    }
}
