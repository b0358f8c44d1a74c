/** LAYOUT: the ranges of blocks, inodes, cells, names and words, just inside and just outside. */
public final class TermsLayoutTest {
    public static void main(String[] args) {
        blocks();
        inodes();
        mapCells();
        tableCells();
        dataCells();
        entries();
        directoryWithoutBlock();
        neighbours();
        lastBlock();
        words();
        atFirst();
        manyCalls();
        Due.end();
    }

    private static void blocks() {
        Calls.run("Blocks 0 .. 35: outside there is none",
            "flush(-1) = NONE", "flush(0) = 0", "flush(35) = 0", "flush(36) = NONE", "flush(-36) = NONE",
            "flush(37) = NONE", "flush(72) = NONE", "flush(MIN) = NONE", "flush(MAX) = NONE",
            "image(-1, 0) = 0", "image(36, 0) = 0", "image(-36, 0) = 0", "image(72, 0) = 0",
            "cached(-1, 0) = 0", "cached(36, 0) = 0", "cached(-36, 0) = 0", "cached(72, 0) = 0");
        Calls.on(Setups.everyBlock(), "block 12g is its MAP, 12g + 1 its TABLE, the other ten are DATA blocks",
            "cached(2, 0) = 38", "cached(3, 0) = 103", "cached(11, 0) = 111", "cached(14, 0) = 39",
            "cached(15, 0) = 115", "cached(23, 0) = 123", "cached(26, 0) = 45", "cached(27, 0) = 127",
            "cached(35, 0) = 135", "flush(35) = 0", "image(35, 0) = 135", "flush(36) = NONE",
            "cached(0, 0) = 1", "cached(1, 0) = 2", "cached(12, 0) = 1", "cached(13, 0) = 2",
            "cached(24, 0) = 1", "cached(25, 0) = 2");
        Calls.on(Setups.everyBlock(), "the block after 35 and the block before 0 have no cells",
            "write(14, 23, 9) = 35", "cached(35, 7) = 9", "cached(36, 0) = 0", "cached(36, -1) = 0",
            "cached(35, 8) = 0", "cached(-1, 8) = 0", "cached(-1, 16) = 0", "cached(-1, 30) = 0");
    }

    private static void inodes() {
        Calls.on(Setups.everyInode(), "Inodes 0 .. 17, group g has 6g .. 6g + 5: their marks and KINDs",
            "cached(0, 0) = 1", "cached(0, 1) = 1", "cached(0, 5) = 1", "cached(12, 0) = 1", "cached(12, 5) = 1",
            "cached(24, 0) = 1", "cached(24, 5) = 1", "cached(1, 0) = 2", "cached(1, 25) = 1", "cached(13, 0) = 2",
            "cached(13, 25) = 1", "cached(25, 0) = 2", "cached(25, 25) = 1", "cached(25, 26) = 1");
        Calls.on(Setups.everyInode(), "inode 17 is the last",
            "write(17, 0, 5) = 27", "write(18, 0, 5) = NONE", "read(17, 0) = 5", "read(18, 0) = 0", "cut(18, 0) = NONE",
            "cut(17, 0) = 1", "link(6, 9, 18) = NONE", "link(6, 9, 17) = 2", "lookup(6, 9) = 17");
        Calls.on(Setups.everyInode(), "numbers far outside are no inodes: 32 more or less is not the same inode",
            "create(32, 9, false) = NONE", "create(-32, 9, false) = NONE", "lookup(32, 1) = NONE",
            "lookup(38, 1) = NONE", "remove(38, 1) = NONE", "rename(38, 1, 0, 9) = NONE",
            "rename(0, 3, 38, 9) = NONE", "link(0, 9, 33) = NONE", "link(32, 9, 1) = NONE", "write(33, 0, 1) = NONE",
            "write(-31, 0, 1) = NONE", "read(33, 0) = 0", "cut(33, 0) = NONE", "lookup(-1, 1) = NONE",
            "lookup(18, 1) = NONE", "lookup(0, 1) = 6");
    }

    private static void mapCells() {
        Calls.on(Setups.everyBlock(), "a MAP 16: cells 0 .. 5 of inodes, 6 .. 15 of data blocks, in order",
            "cached(0, 4) = 1", "cached(0, 5) = 0", "cached(0, 6) = 1", "cached(0, 15) = 1", "cached(0, 16) = 0",
            "cached(0, -1) = 0", "cached(12, 3) = 1", "cached(12, 4) = 0", "cached(12, 6) = 1", "cached(12, 15) = 1",
            "cached(12, 16) = 0", "cached(12, -1) = 0", "cached(24, 2) = 1", "cached(24, 3) = 0", "cached(24, 6) = 1",
            "cached(24, 15) = 1", "cached(24, 16) = 0", "cached(24, -1) = 0");
        Calls.on(Setups.everyBlock(), "the mark of the last data block of a group is cell 15",
            "cut(3, 2) = 1", "cached(0, 15) = 0", "cached(0, 14) = 1", "cut(8, 2) = 1", "cached(12, 15) = 0",
            "cached(12, 14) = 1", "cut(14, 2) = 1", "cached(24, 15) = 0", "cached(24, 14) = 1",
            "cut(1, 0) = 3", "cached(0, 6) = 1", "cached(0, 7) = 0", "cached(0, 9) = 0", "cached(0, 10) = 1");
        Calls.on(Setups.everyBlock(), "so on the disk",
            "flush(0) = 0", "flush(12) = 0", "flush(24) = 0", "image(0, 5) = 0", "image(0, 6) = 1", "image(0, 15) = 1",
            "image(0, 16) = 0", "image(0, -1) = 0", "image(12, 15) = 1", "image(12, 16) = 0", "image(12, -1) = 0",
            "image(24, 15) = 1", "image(24, 16) = 0", "image(24, MAX) = 0", "image(24, MIN) = 0");
    }

    private static void tableCells() {
        Calls.on(Setups.everyInode(), "a TABLE 30: KIND, LINKS, three POINTERS for each inode in order",
            "write(5, 16, 1) = 3", "cached(1, 25) = 1", "cached(1, 26) = 1", "cached(1, 27) = 0", "cached(1, 28) = 0",
            "cached(1, 29) = 3", "cached(1, 30) = 0", "cached(1, -1) = 0", "cached(13, 0) = 2", "cached(13, 1) = 1",
            "cached(13, 2) = 14", "cached(13, -1) = 0", "cached(13, 30) = 0", "write(11, 16, 1) = 15",
            "cached(13, 29) = 15", "cached(25, -1) = 0", "write(17, 16, 1) = 27", "cached(25, 29) = 27",
            "cached(25, 30) = 0");
        Calls.on(Setups.everyInode(), "so on the disk",
            "write(5, 16, 1) = 3", "write(17, 16, 1) = 27", "sync() = 3", "image(1, 29) = 3", "image(1, 30) = 0",
            "image(1, -1) = 0", "image(13, 0) = 2", "image(13, -1) = 0", "image(25, 29) = 27", "image(25, 30) = 0",
            "image(1, MAX) = 0", "image(1, MIN) = 0");
    }

    private static void dataCells() {
        Calls.run("a DATA block 8",
            "create(0, 1, false) = 1", "write(1, 0, 50) = 3", "write(1, 7, 57) = 3", "write(1, 8, 60) = 4",
            "write(1, 15, 67) = 4", "cached(3, 0) = 50", "cached(3, 7) = 57", "cached(3, 8) = 0", "cached(4, -1) = 0",
            "cached(4, 0) = 60", "cached(4, 7) = 67", "cached(4, 8) = 0", "cached(2, 8) = 0", "cached(3, -1) = 0",
            "sync() = 2", "image(3, 0) = 50", "image(3, 7) = 57", "image(3, 8) = 0", "image(4, -1) = 0",
            "image(4, 0) = 60", "image(4, 7) = 67", "image(4, 8) = 0", "image(4, MAX) = 0", "image(4, MIN) = 0");
    }

    private static void entries() {
        Calls.run("32 * name + inode, with a name 1 .. 999",
            "create(0, 1, false) = 1", "cached(2, 0) = 33", "create(0, 999, false) = 2", "cached(2, 1) = 31970",
            "create(0, 0, false) = NONE", "create(0, 1000, false) = NONE", "link(0, 0, 1) = NONE",
            "link(0, 1000, 1) = NONE", "rename(0, 1, 0, 0) = NONE", "rename(0, 1, 0, 1000) = NONE",
            "lookup(0, 0) = NONE", "lookup(0, 1000) = NONE", "remove(0, 0) = NONE", "remove(0, 1000) = NONE",
            "rename(0, 0, 0, 5) = NONE", "rename(0, 1000, 0, 5) = NONE", "cached(2, 2) = 0",
            "rename(0, 1, 0, 998) = 1", "cached(2, 2) = 31937", "lookup(0, 998) = 1", "lookup(0, 999) = 2");
        Calls.on(Setups.everyInode(), "the greatest entry",
            "link(6, 999, 17) = 2", "cached(14, 5) = 31985", "lookup(6, 999) = 17");
        Calls.run("names that would be the same after 32 * name has wrapped around",
            "create(0, 134217729, false) = NONE", "create(0, 1, false) = 1", "lookup(0, 134217729) = NONE",
            "lookup(0, -134217727) = NONE", "remove(0, 134217729) = NONE", "link(0, 134217730, 1) = NONE",
            "rename(0, 134217729, 0, 2) = NONE", "rename(0, 1, 0, 134217730) = NONE", "lookup(0, MIN) = NONE",
            "lookup(0, MAX) = NONE", "lookup(0, -1) = NONE", "lookup(0, 1) = 1");
    }

    private static void directoryWithoutBlock() {
        Calls.run("no entries when that is 0, on the disk",
            "create(0, 1, true) = 6", "flush(12) = 0", "flush(13) = 1", "image(13, 0) = 2", "image(13, 2) = 0",
            "defects(0) = 0", "defects(1) = 0", "defects(2) = 1", "defects(3) = 1", "defects(4) = 0", "defects(5) = 0",
            "flush(2) = 1", "image(2, 0) = 0");
        Calls.run("no entries when that is 0, in memory after a crash",
            "create(0, 1, true) = 6", "flush(12) = 0", "flush(13) = 1", "crash() = true", "cached(13, 0) = 2",
            "cached(13, 2) = 0", "lookup(6, 1) = NONE", "create(6, 1, false) = NONE", "remove(6, 1) = NONE",
            "sync() = 0", "create(0, 1, false) = 1", "sync() = 1", "reclaim() = 2", "cached(13, 0) = 0",
            "cached(12, 0) = 0", "cached(12, 6) = 0", "cached(0, 1) = 1");
    }

    /** Directory 8 has the block 16; file 7 has 15 and 17, whose words beside it look like entries. */
    private static OrderedVolume between(int before, int after) {
        return Setups.after("create(0, 1, true) = 6", "create(6, 1, false) = 7", "write(7, 7, " + before + ") = 15",
            "create(0, 2, true) = 12", "create(0, 3, true) = 1", "create(0, 4, true) = 13", "create(0, 5, true) = 2",
            "create(0, 6, true) = 8", "cached(13, 12) = 16", "write(7, 8, " + after + ") = 17",
            "create(6, 2, false) = 9");
    }

    private static void neighbours() {
        Calls.on(between(42, 74), "a directory's entries are in its own eight cells",
            "lookup(8, 1) = NONE", "lookup(8, 2) = NONE", "write(10, 0, 1) = NONE", "remove(0, 6) = 8",
            "lookup(0, 6) = NONE");
        Calls.on(between(41, 73), "neighbours do not count among them",
            "create(8, 1, false) = 10", "create(8, 2, false) = 11", "cached(16, 0) = 42", "cached(16, 1) = 75",
            "remove(8, 1) = 10", "cached(15, 7) = 41", "cached(17, 0) = 73");
        Calls.on(between(41, 73), "nor in LINKS",
            "sync() = 3", "defects(4) = 0", "defects(5) = 0", "reclaim() = 0", "cached(13, 16) = 1", "image(13, 16) = 1");
        Calls.on(between(41, 73), "nor do they bring an inode into the tree",
            "write(9, 0, 5) = 18", "sync() = 3", "remove(6, 2) = 9", "cached(13, 15) = 1", "read(9, 0) = 0",
            "write(9, 0, 6) = NONE", "link(0, 9, 9) = NONE", "flush(14) = 0", "image(14, 1) = 0", "defects(3) = 1");
        Calls.on(between(41, 73), "nor are they written back with it",
            "sync() = 3", "write(7, 7, 5) = 15", "write(7, 8, 6) = 17", "flush(16) = 0", "image(15, 7) = 41",
            "image(17, 0) = 73", "flush(15) = 0", "image(15, 7) = 5", "flush(17) = 0", "image(17, 0) = 6",
            "cached(13, 16) = 1");
        Calls.on(between(41, 73), "nor do LINKS fall for them when it is freed",
            "sync() = 3", "remove(0, 6) = 8", "sync() = 2", "cached(12, 8) = 0", "cached(13, 16) = 1",
            "lookup(6, 2) = 9");
    }

    private static void lastBlock() {
        Calls.on(Setups.everyBlock(), "a directory in block 35",
            "cut(14, 2) = 1", "create(0, 7, true) = 15", "cached(25, 17) = 35", "create(15, 1, false) = 16",
            "cached(35, 0) = 48", "flush(24) = 0", "flush(35) = 1", "image(35, 0) = 0", "flush(25) = 6",
            "image(25, 17) = 35", "flush(35) = 0", "image(35, 0) = 48", "sync() = 3", "lookup(15, 1) = 16",
            "crash() = true", "lookup(15, 1) = 16");
        Calls.on(Setups.everyBlock(), "a crash takes the cells of block 35 too",
            "sync() = 3", "write(14, 16, 9) = 35", "cached(35, 0) = 9", "crash() = true", "cached(35, 0) = 135");
    }

    private static void words() {
        Calls.run("Word w of a file (0 .. 23) is cell w % 8 of the block named by its pointer w / 8",
            "create(0, 1, false) = 1", "write(1, -1, 1) = NONE", "write(1, 24, 1) = NONE", "cached(0, 7) = 0",
            "write(1, 0, 10) = 3", "write(1, 7, 17) = 3", "write(1, 8, 18) = 4", "write(1, 15, 25) = 4",
            "write(1, 16, 26) = 5", "write(1, 23, 33) = 5", "cached(3, 0) = 10", "cached(3, 7) = 17",
            "cached(4, 0) = 18", "cached(4, 7) = 25", "cached(5, 0) = 26", "cached(5, 7) = 33", "read(1, 0) = 10",
            "read(1, 7) = 17", "read(1, 8) = 18", "read(1, 15) = 25", "read(1, 16) = 26", "read(1, 23) = 33",
            "read(1, -1) = 0", "read(1, 24) = 0", "write(1, 24, 1) = NONE", "write(1, -1, 1) = NONE",
            "write(1, -8, 1) = NONE", "write(1, 31, 1) = NONE", "read(1, -8) = 0", "read(1, 31) = 0",
            "write(1, MAX, 1) = NONE", "write(1, MIN, 1) = NONE", "read(1, MAX) = 0", "read(1, MIN) = 0",
            "cached(1, 10) = 0", "cached(0, 10) = 0");
        Calls.run("it is 0 when that pointer is 0: not a cell of block 0",
            "create(0, 1, false) = 1", "cached(0, 0) = 1", "cached(0, 6) = 1", "read(1, 0) = 0", "read(1, 1) = 0",
            "read(1, 6) = 0", "read(1, 8) = 0", "read(1, 14) = 0", "read(1, 16) = 0", "read(1, 22) = 0",
            "write(1, 8, 5) = 3", "read(1, 8) = 5", "read(1, 0) = 0", "read(1, 16) = 0", "cut(1, 1) = 1",
            "read(1, 8) = 0");
    }

    private static void atFirst() {
        Calls.run("inode 0, the ROOT, is a directory with LINKS 1 and the block 2, and both are marked",
            "cached(1, 0) = 2", "cached(1, 1) = 1", "cached(1, 2) = 2", "cached(1, 3) = 0", "cached(1, 4) = 0",
            "cached(0, 0) = 1", "cached(0, 6) = 1", "cached(0, 1) = 0", "cached(0, 7) = 0", "image(1, 0) = 2",
            "image(1, 1) = 1", "image(1, 2) = 2", "image(0, 0) = 1", "image(0, 6) = 1", "image(0, 7) = 0");
    }

    private static void manyCalls() {
        OrderedVolume volume = new OrderedVolume();
        for (int n = 0; n < 128; n++) {
            int name = 1 + n % 8;
            Calls.on(volume, "at most 512 calls, round " + n,
                "create(0, " + name + ", false) = 1", "write(1, 23, " + n + ") = 3", "read(1, 23) = " + n,
                "remove(0, " + name + ") = 1");
        }
    }
}
