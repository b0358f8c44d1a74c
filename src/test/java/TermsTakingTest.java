/** TAKING: which inode and which data block is taken, with full groups and the wrap-around of groups. */
public final class TermsTakingTest {
    public static void main(String[] args) {
        freeInode();
        freeBlock();
        inodeForFile();
        inodeForDirectory();
        blockForDirectory();
        blockForFile();
        blockRightAfter();
        taken();
        Due.end();
    }

    private static void freeInode() {
        Calls.run("FREE when its mark and its KIND are 0 in memory: not with a mark alone",
            "create(0, 1, false) = 1", "flush(0) = 0", "crash() = true", "cached(0, 1) = 1", "cached(1, 5) = 0",
            "create(0, 1, false) = 2", "create(0, 2, true) = 6");
        Calls.run("not with a KIND alone",
            "create(0, 1, false) = 1", "flush(1) = 0", "crash() = true", "cached(0, 1) = 0", "cached(1, 5) = 1",
            "create(0, 1, false) = 2", "create(0, 2, true) = 6");
        Calls.run("in memory: the disk has neither, or still both",
            "create(0, 1, false) = 1", "image(0, 1) = 0", "image(1, 5) = 0", "create(0, 2, false) = 2", "sync() = 1",
            "remove(0, 1) = 1", "flush(2) = 0", "flush(1) = 0", "cached(0, 1) = 0", "image(0, 1) = 1",
            "create(0, 3, false) = 1");
        Calls.run("a RELEASED inode is not free as long as its mark stands",
            "create(0, 1, false) = 1", "sync() = 1", "remove(0, 1) = 1", "flush(2) = 0", "cached(1, 5) = 0",
            "cached(0, 1) = 1", "create(0, 2, false) = 2", "flush(1) = 0", "create(0, 3, false) = 1");
        Calls.run("one that is not free does not count among the most",
            "create(0, 1, true) = 6", "flush(12) = 0", "crash() = true", "cached(12, 0) = 1", "cached(13, 0) = 0",
            "create(0, 1, true) = 12", "create(0, 2, true) = 1", "create(0, 3, true) = 7");
    }

    private static void freeBlock() {
        Calls.run("a data block when its mark is 0 in memory: not on the disk",
            "create(0, 1, false) = 1", "write(1, 0, 1) = 3", "image(0, 7) = 0", "create(0, 2, false) = 2",
            "write(2, 0, 1) = 4", "sync() = 2", "cut(1, 0) = 1", "cached(0, 7) = 1", "write(2, 16, 1) = 5",
            "flush(1) = 1", "cached(0, 7) = 0", "image(0, 7) = 1", "write(1, 0, 2) = 3");
        Calls.run("a mark that a crash left is in use until reclaim",
            "create(0, 1, false) = 1", "write(1, 0, 1) = 3", "flush(0) = 0", "crash() = true", "cached(0, 7) = 1",
            "create(0, 1, false) = 2", "write(2, 0, 1) = 4", "reclaim() = 2", "write(2, 16, 1) = 3");
    }

    private static void inodeForFile() {
        Calls.run("from the group of the directory, whichever it is",
            "create(0, 1, true) = 6", "create(0, 2, true) = 12", "create(12, 1, false) = 13", "create(6, 1, false) = 7",
            "create(0, 3, false) = 1");
        Calls.run("group 0 full: the next group, then the one after that",
            "create(0, 1, true) = 6", "create(0, 2, false) = 1", "create(0, 3, false) = 2", "create(0, 4, false) = 3",
            "create(0, 5, false) = 4", "create(0, 6, false) = 5", "create(0, 7, false) = 7", "create(6, 1, false) = 8",
            "create(6, 2, false) = 9", "create(6, 3, false) = 10", "create(6, 4, false) = 11",
            "create(0, 8, false) = 12");
        Calls.run("group 1 full: the next group, then the one after that, which is 0",
            "create(0, 1, true) = 6", "create(6, 1, true) = 12", "create(6, 2, false) = 7", "create(6, 3, false) = 8",
            "create(6, 4, false) = 9", "create(6, 5, false) = 10", "create(6, 6, false) = 11",
            "create(6, 7, false) = 13", "create(12, 1, false) = 14", "create(12, 2, false) = 15",
            "create(12, 3, false) = 16", "create(12, 4, false) = 17", "create(6, 8, false) = 1");
        Calls.run("group 2 full: after 2 comes 0, then 1",
            "create(0, 1, true) = 6", "create(0, 2, true) = 12", "create(12, 1, false) = 13",
            "create(12, 2, false) = 14", "create(12, 3, false) = 15", "create(12, 4, false) = 16",
            "create(12, 5, false) = 17", "create(12, 6, false) = 1", "create(0, 3, false) = 2",
            "create(0, 4, false) = 3", "create(0, 5, false) = 4", "create(0, 6, false) = 5",
            "create(12, 7, false) = 7", "create(0, 7, false) = 8");
        Calls.on(Setups.everyInode(), "5 is of group 0",
            "remove(0, 7) = 5", "create(0, 8, true) = 5", "remove(0, 6) = 4", "remove(6, 5) = 11",
            "create(5, 1, false) = 4", "create(5, 2, false) = 11");
        Calls.on(Setups.everyInode(), "11 is of group 1",
            "remove(6, 5) = 11", "create(0, 8, true) = 11", "remove(6, 4) = 10", "remove(12, 5) = 17",
            "create(11, 1, false) = 10", "create(11, 2, false) = 17");
        Calls.on(Setups.everyInode(), "17 is of group 2",
            "remove(12, 5) = 17", "create(0, 8, true) = 17", "remove(12, 4) = 16", "remove(0, 7) = 5",
            "create(17, 1, false) = 16", "create(17, 2, false) = 5");
        Calls.run("always the least free one of the group",
            "create(0, 1, false) = 1", "create(0, 2, false) = 2", "create(0, 3, false) = 3", "create(0, 4, false) = 4",
            "remove(0, 4) = 4", "remove(0, 2) = 2", "create(0, 5, false) = 2", "create(0, 6, false) = 4",
            "create(0, 7, false) = 5");
        Calls.run("a free one of the directory's own group again before those of the next",
            "create(0, 1, false) = 1", "create(0, 2, false) = 2", "create(0, 3, false) = 3", "create(0, 4, false) = 4",
            "create(0, 5, false) = 5", "create(0, 6, false) = 6", "remove(0, 5) = 5", "create(0, 7, false) = 5",
            "create(0, 8, false) = 7");
    }

    private static void inodeForDirectory() {
        Calls.run("the group with the most FREE inodes, the lowest of several, not the group of the directory",
            "create(0, 1, true) = 6", "create(6, 1, true) = 12", "create(12, 1, true) = 1", "create(1, 1, true) = 7",
            "create(1, 2, true) = 13", "create(7, 1, true) = 2", "create(13, 1, true) = 8", "create(8, 1, true) = 14",
            "create(8, 2, true) = 3");
        Calls.run("groups 0 and 2 have the most",
            "create(0, 1, true) = 6", "create(6, 1, false) = 7", "create(0, 2, true) = 12", "create(6, 2, true) = 1");
        Calls.run("group 2 alone has the most",
            "create(0, 1, false) = 1", "create(0, 2, true) = 6", "create(6, 1, false) = 7", "create(6, 2, true) = 12",
            "create(12, 1, true) = 13", "create(13, 1, true) = 2");
        Calls.on(Setups.everyInode(), "the only free inode is the last",
            "remove(12, 5) = 17", "create(0, 8, true) = 17", "cached(25, 27) = 27");
        Calls.on(Setups.everyInode(), "the last inode of a group counts",
            "remove(12, 5) = 17", "remove(12, 4) = 16", "remove(0, 6) = 4", "create(0, 8, true) = 16",
            "create(0, 9, true) = 4", "create(6, 6, true) = 17");
        Calls.on(Setups.everyInode(), "the first inode of a group counts",
            "remove(12, 1) = 13", "remove(6, 1) = 7", "remove(6, 2) = 8", "remove(0, 3) = 1",
            "create(0, 8, true) = 7", "create(0, 3, true) = 1");
        Calls.on(Setups.everyInode(), "the only free inode is in group 0",
            "remove(0, 7) = 5", "create(12, 6, true) = 5", "cached(1, 27) = 3");
        Calls.run("the least free one of that group",
            "create(0, 1, true) = 6", "create(6, 1, false) = 7", "create(6, 2, false) = 8", "create(0, 2, true) = 12",
            "create(12, 1, false) = 13", "create(12, 2, false) = 14", "remove(12, 1) = 13", "create(0, 3, false) = 1",
            "create(0, 4, false) = 2", "create(0, 5, true) = 13");
    }

    /** Directories 6 and 12 and so many files of each group; where they are fewest, a new directory goes. */
    private static OrderedVolume withFiles(int files0, int files1, int files2) {
        OrderedVolume volume = Setups.after("create(0, 1, true) = 6", "create(0, 2, true) = 12");
        for (int n = 0; n < files0; n++) {
            Calls.on(volume, "files of group 0", "create(0, " + (3 + n) + ", false) = " + (1 + n));
        }
        for (int n = 0; n < files1; n++) {
            Calls.on(volume, "files of group 1", "create(6, " + (3 + n) + ", false) = " + (7 + n));
        }
        for (int n = 0; n < files2; n++) {
            Calls.on(volume, "files of group 2", "create(12, " + (3 + n) + ", false) = " + (13 + n));
        }
        return volume;
    }

    /** Nine blocks for the files i, i + 1, i + 2: with the directory's own all of the group. */
    private static void fill(OrderedVolume volume, int i, int b) {
        for (int n = 0; n < 9; n++) {
            Calls.on(volume, "fill a group",
                "write(" + (i + n / 3) + ", " + n % 3 * 8 + ", 1) = " + (b + n));
        }
    }

    private static void blockForDirectory() {
        Calls.run("a data block from the group of the new inode, the least free one",
            "create(0, 1, true) = 6", "cached(13, 2) = 14", "create(6, 1, false) = 7", "write(7, 0, 1) = 15",
            "create(0, 2, true) = 12", "cached(25, 2) = 26", "create(0, 3, true) = 1", "cached(1, 7) = 3",
            "create(0, 4, true) = 13", "cached(25, 7) = 27", "cut(7, 0) = 1", "create(0, 5, true) = 2",
            "cached(1, 12) = 4", "create(0, 6, true) = 8", "cached(13, 12) = 15");
        OrderedVolume volume = withFiles(3, 4, 4);
        fill(volume, 1, 3);
        Calls.on(volume, "group 0 full: the next", "create(12, 1, true) = 4", "cached(1, 22) = 15");
        volume = withFiles(3, 4, 4);
        fill(volume, 1, 3);
        fill(volume, 7, 15);
        Calls.on(volume, "groups 0 and 1 full: the one after that", "create(6, 1, true) = 4", "cached(1, 22) = 27");
        volume = withFiles(4, 3, 4);
        fill(volume, 7, 15);
        Calls.on(volume, "group 1 full: the next", "create(0, 8, true) = 10", "cached(13, 22) = 27");
        volume = withFiles(4, 3, 4);
        fill(volume, 7, 15);
        fill(volume, 13, 27);
        Calls.on(volume, "groups 1 and 2 full: the one after that", "create(12, 1, true) = 10", "cached(13, 22) = 3");
        volume = withFiles(4, 4, 3);
        fill(volume, 13, 27);
        Calls.on(volume, "group 2 full: after 2 comes 0", "create(6, 1, true) = 16", "cached(25, 22) = 3");
        volume = withFiles(4, 4, 3);
        fill(volume, 13, 27);
        fill(volume, 1, 3);
        Calls.on(volume, "groups 2 and 0 full: the one after that", "create(6, 1, true) = 16", "cached(25, 22) = 15");
    }

    private static void blockForFile() {
        OrderedVolume volume = withFiles(4, 4, 4);
        fill(volume, 1, 3);
        Calls.on(volume, "group 0 full: the next", "write(4, 0, 1) = 15", "write(4, 16, 1) = 16");
        volume = withFiles(4, 4, 4);
        fill(volume, 1, 3);
        fill(volume, 7, 15);
        Calls.on(volume, "groups 0 and 1 full: the one after that", "write(4, 0, 1) = 27", "write(10, 0, 1) = 28");
        volume = withFiles(4, 4, 4);
        fill(volume, 7, 15);
        Calls.on(volume, "group 1 full: the next", "write(10, 0, 1) = 27", "write(10, 16, 1) = 28");
        volume = withFiles(4, 4, 4);
        fill(volume, 7, 15);
        fill(volume, 13, 27);
        Calls.on(volume, "groups 1 and 2 full: the one after that", "write(10, 23, 1) = 3", "write(16, 0, 1) = 4");
        volume = withFiles(4, 4, 4);
        fill(volume, 13, 27);
        Calls.on(volume, "group 2 full: after 2 comes 0", "write(16, 0, 1) = 3", "write(16, 16, 1) = 4");
        volume = withFiles(4, 4, 4);
        fill(volume, 13, 27);
        fill(volume, 1, 3);
        Calls.on(volume, "groups 2 and 0 full: the one after that", "write(16, 0, 1) = 15", "write(4, 0, 1) = 16");
        Calls.on(Setups.everyBlock(), "one block is free, wherever it is",
            "cut(3, 2) = 1", "create(12, 3, false) = 15", "write(15, 0, 1) = 11", "cut(8, 2) = 1",
            "write(15, 8, 1) = 23", "cut(9, 2) = 1", "create(0, 7, false) = 5", "write(5, 16, 1) = 29",
            "write(5, 0, 1) = FULL");
    }

    private static void blockRightAfter() {
        Calls.run("if k > 0 and pointer k - 1 is not 0: the block right after",
            "create(0, 1, false) = 1", "create(0, 2, false) = 2", "write(1, 0, 1) = 3", "write(2, 0, 1) = 4",
            "cut(1, 0) = 1", "write(2, 8, 1) = 5", "write(2, 16, 1) = 6", "write(1, 8, 1) = 3");
        Calls.run("pointer k - 1 is 0: not after pointer k - 2",
            "create(0, 1, false) = 1", "create(0, 2, false) = 2", "write(1, 0, 1) = 3", "write(2, 0, 1) = 4",
            "cut(1, 0) = 1", "write(2, 16, 1) = 3", "write(2, 8, 1) = 5");
        Calls.run("k is 0: not before or after another pointer",
            "create(0, 1, false) = 1", "create(0, 2, false) = 2", "write(1, 0, 1) = 3", "write(2, 0, 1) = 4",
            "write(2, 8, 1) = 5", "write(2, 16, 1) = 6", "cut(1, 0) = 1", "create(0, 3, false) = 3",
            "write(3, 0, 1) = 3", "write(3, 8, 1) = 7");
        Calls.run("the block right after is not free: the least free one",
            "create(0, 1, false) = 1", "create(0, 2, false) = 2", "create(0, 3, false) = 3", "write(1, 0, 1) = 3",
            "write(2, 0, 1) = 4", "write(3, 0, 1) = 5", "cut(1, 0) = 1", "write(2, 8, 1) = 3",
            "write(2, 16, 1) = 6");
        Calls.run("it is not free while it is DROPPED",
            "create(0, 1, false) = 1", "write(1, 0, 1) = 3", "write(1, 8, 1) = 4", "sync() = 2", "cut(1, 1) = 1",
            "write(1, 8, 1) = 5", "flush(5) = 0", "flush(0) = 0", "flush(1) = 0", "cached(0, 8) = 0",
            "cut(1, 1) = 1", "write(1, 8, 1) = 4");
        Calls.on(Setups.everyBlock(), "of the same group: after 11 comes a MAP",
            "cut(3, 2) = 1", "cut(1, 2) = 1", "create(0, 7, false) = 5", "write(5, 0, 1) = 5", "cut(1, 0) = 2",
            "write(5, 8, 1) = 3", "write(5, 16, 1) = 4", "cut(5, 0) = 3", "cut(2, 0) = 3", "write(5, 0, 1) = 3",
            "write(5, 8, 1) = 4", "write(5, 16, 1) = 5", "write(1, 0, 1) = 6", "write(1, 16, 1) = 7",
            "write(2, 0, 1) = 8", "write(2, 16, 1) = 11");
        Calls.on(Setups.everyBlock(), "a file whose block is 11",
            "cut(3, 2) = 1", "create(0, 7, false) = 5", "write(5, 0, 1) = 11", "cut(1, 1) = 2", "write(5, 8, 1) = 4",
            "write(5, 16, 1) = 5");
        Calls.on(Setups.everyBlock(), "a file whose block is 23",
            "cut(8, 2) = 1", "create(6, 4, false) = 10", "write(10, 0, 1) = 23", "cut(7, 1) = 2",
            "write(10, 8, 1) = 19", "write(10, 16, 1) = 20");
        Calls.on(Setups.everyBlock(), "a file whose block is 35, after which there is none",
            "cut(14, 2) = 1", "create(12, 3, false) = 15", "write(15, 0, 1) = 35", "cut(13, 2) = 1",
            "write(15, 8, 1) = 32", "cut(14, 1) = 1", "write(15, 16, 1) = 34");
        Calls.on(Setups.everyBlock(), "the block right after is the last of a group",
            "cut(14, 2) = 1", "cut(13, 0) = 3", "write(14, 16, 1) = 35", "cut(8, 2) = 1", "cut(7, 0) = 3",
            "write(8, 16, 1) = 23", "cut(3, 2) = 1", "cut(1, 0) = 3", "write(3, 16, 1) = 11");
        Calls.on(Setups.everyBlock(), "otherwise beginning with the group of the file's inode, not of the block before",
            "cut(4, 1) = 2", "create(6, 4, false) = 10", "write(10, 0, 1) = 16", "cut(1, 0) = 3", "write(4, 8, 1) = 3",
            "cached(12, 9) = 0");
        Calls.on(Setups.everyBlock(), "of the block's group, though the file's inode is of another",
            "cut(4, 1) = 2", "cut(1, 0) = 3", "write(4, 8, 1) = 16", "write(4, 16, 1) = 17", "cut(4, 0) = 3",
            "write(4, 8, 1) = 3", "write(4, 0, 1) = 4");
    }

    private static void taken() {
        Calls.run("What is taken is marked in memory",
            "create(0, 1, true) = 6", "cached(12, 0) = 1", "cached(12, 6) = 1", "image(12, 0) = 0", "image(12, 6) = 0",
            "create(0, 2, false) = 1", "cached(0, 1) = 1", "write(1, 0, 1) = 3", "cached(0, 7) = 1", "image(0, 7) = 0");
        Calls.run("eight cells 0 in memory, the first and the last",
            "create(0, 1, false) = 1", "write(1, 0, 8) = 3", "write(1, 7, 9) = 3", "cut(1, 0) = 1", "cached(3, 0) = 8",
            "cached(3, 7) = 9", "write(1, 1, 1) = 3", "cached(3, 0) = 0", "cached(3, 7) = 0", "cached(3, 1) = 1");
        Calls.run("FRESH until it is written back, which a map or another block does not end",
            "create(0, 1, false) = 1", "write(1, 0, 8) = 3", "write(1, 8, 8) = 4", "flush(0) = 0", "flush(4) = 0",
            "flush(2) = 1", "flush(1) = 1", "image(1, 7) = 0", "image(1, 8) = 4", "flush(3) = 0", "flush(1) = 0",
            "image(1, 7) = 3");
        Calls.run("the cells of a FRESH block count as 0 on the disk: its places",
            "create(0, 1, false) = 1", "write(1, 0, 99) = 3", "write(1, 7, 98) = 3", "sync() = 2", "cut(1, 0) = 1",
            "flush(1) = 0", "create(0, 2, true) = 6", "create(0, 3, true) = 12", "create(0, 4, true) = 7",
            "create(0, 5, true) = 13", "create(0, 6, true) = 2", "cached(1, 12) = 3", "image(3, 0) = 99",
            "create(2, 1, false) = 3", "cached(3, 0) = 35", "remove(2, 1) = 3", "cached(1, 16) = 0",
            "cached(0, 3) = 0", "create(2, 2, false) = 3", "cached(3, 0) = 67", "image(3, 0) = 99");
    }
}
