/** Promise 2: create. */
public final class Promise02CreateTest {
    public static void main(String[] args) {
        files();
        directories();
        refusals();
        places();
        noInode();
        noBlock();
        whatTheTermsSay();
        edges();
        Due.end();
    }

    private static void files() {
        Calls.run("a file",
            "create(0, 7, false) = 1", "cached(0, 1) = 1", "cached(1, 5) = 1", "cached(1, 6) = 1",
            "cached(1, 7) = 0", "cached(2, 0) = 225", "image(2, 0) = 0", "image(0, 1) = 0", "image(1, 5) = 0",
            "cached(0, 7) = 0", "create(0, 8, false) = 2", "cached(2, 1) = 258");
        Calls.run("files go to the groups after the directory's",
            "create(0, 1, true) = 6", "create(0, 2, true) = 12", "create(12, 1, false) = 13",
            "create(12, 2, false) = 14", "create(12, 3, false) = 15", "create(12, 4, false) = 16",
            "create(12, 5, false) = 17", "create(12, 6, false) = 1", "create(0, 3, false) = 2",
            "create(0, 4, false) = 3", "create(0, 5, false) = 4", "create(0, 6, false) = 5",
            "create(0, 7, false) = 7", "create(6, 1, false) = 8");
        Calls.run("an inode whose mark or KIND stands is not free",
            "create(0, 1, false) = 1", "flush(1) = 0", "crash() = true", "cached(0, 1) = 0", "cached(1, 5) = 1",
            "create(0, 1, false) = 2", "flush(0) = 0", "crash() = true", "cached(0, 2) = 1", "cached(1, 10) = 0",
            "create(0, 1, false) = 3");
    }

    private static void directories() {
        Calls.run("directories go where most inodes are free",
            "create(0, 1, true) = 6", "cached(12, 0) = 1", "cached(13, 0) = 2", "cached(13, 1) = 1",
            "cached(13, 2) = 14", "cached(12, 6) = 1", "cached(2, 0) = 38", "create(0, 2, true) = 12",
            "cached(25, 2) = 26", "create(0, 3, true) = 1", "cached(1, 7) = 3", "cached(0, 7) = 1",
            "create(0, 4, true) = 7", "cached(13, 7) = 15", "create(7, 1, true) = 13", "create(13, 1, true) = 2",
            "lookup(13, 1) = 2", "lookup(7, 1) = 13", "create(2, 1, false) = 3");
        Calls.run("a directory's block starts empty, whatever stood there",
            "create(0, 1, false) = 1", "write(1, 0, 99) = 3", "write(1, 7, 98) = 3", "sync() = 2",
            "cut(1, 0) = 1", "sync() = 2", "create(0, 2, true) = 6", "create(0, 3, true) = 12",
            "create(0, 4, true) = 7", "create(0, 5, true) = 13", "create(0, 6, true) = 2", "cached(1, 12) = 3",
            "cached(3, 0) = 0", "cached(3, 7) = 0", "image(3, 0) = 99", "lookup(2, 3) = NONE",
            "create(2, 1, false) = 3", "cached(3, 0) = 35", "remove(0, 6) = BUSY");
    }

    private static void refusals() {
        Calls.run("NONE before all else",
            "create(0, 0, false) = NONE", "create(0, 1000, false) = NONE", "create(0, -1, true) = NONE",
            "create(0, MIN, true) = NONE", "create(0, MAX, true) = NONE", "create(-1, 1, false) = NONE",
            "create(18, 1, false) = NONE", "create(MIN, 1, false) = NONE", "create(MAX, 1, false) = NONE",
            "create(1, 1, false) = NONE", "create(0, 1, false) = 1", "create(1, 1, false) = NONE",
            "create(0, 999, true) = 6", "create(6, 999, false) = 7", "remove(6, 999) = 7", "remove(0, 999) = 6",
            "create(6, 1, false) = NONE");
        Calls.run("EXISTS before FULL",
            "create(0, 1, false) = 1", "create(0, 1, false) = EXISTS", "create(0, 1, true) = EXISTS",
            "create(0, 2, false) = 2", "create(0, 3, false) = 3", "create(0, 4, false) = 4",
            "create(0, 5, false) = 5", "create(0, 6, false) = 6", "create(0, 7, false) = 7",
            "create(0, 8, false) = 8", "create(0, 8, false) = EXISTS", "create(0, 9, false) = FULL",
            "create(0, 9, true) = FULL", "image(0, 1) = 0", "sync() = 2");
        Calls.run("a refused create changes nothing",
            "create(0, 1, false) = 1", "sync() = 1", "create(0, 1, true) = EXISTS", "create(0, 0, true) = NONE",
            "cached(12, 0) = 0", "cached(12, 6) = 0", "sync() = 0");
    }

    private static void places() {
        Calls.run("a cell that the disk still has is no place",
            "create(0, 1, false) = 1", "create(0, 2, false) = 2", "sync() = 1", "remove(0, 1) = 1",
            "create(0, 3, false) = 3", "cached(2, 0) = 0", "cached(2, 2) = 99", "flush(2) = 1", "image(2, 0) = 0",
            "create(0, 4, false) = 4", "cached(2, 0) = 132");
        Calls.run("without a place a SYNC makes one",
            "create(0, 1, false) = 1", "create(0, 2, false) = 2", "create(0, 3, false) = 3",
            "create(0, 4, false) = 4", "create(0, 5, false) = 5", "create(0, 6, false) = 6",
            "create(0, 7, false) = 7", "create(0, 8, false) = 8", "sync() = 2", "remove(0, 4) = 4",
            "create(0, 9, false) = 4", "image(2, 3) = 0", "cached(2, 3) = 292", "image(0, 4) = 0");
    }

    private static OrderedVolume withoutInodes() {
        OrderedVolume volume = new OrderedVolume();
        Calls.on(volume, "all inodes",
            "create(0, 1, true) = 6", "create(0, 2, true) = 12",
            "create(6, 1, false) = 7", "create(6, 2, false) = 8", "create(6, 3, false) = 9",
            "create(6, 4, false) = 10", "create(6, 5, false) = 11", "create(6, 6, false) = 13",
            "create(6, 7, false) = 14", "create(6, 8, false) = 15", "create(12, 1, false) = 16",
            "create(12, 2, false) = 17", "create(12, 3, false) = 1", "create(12, 4, false) = 2",
            "create(12, 5, false) = 3", "create(12, 6, false) = 4", "create(12, 7, false) = 5");
        return volume;
    }

    private static void noInode() {
        Calls.on(withoutInodes(), "FULL, but the SYNC stays made",
            "image(0, 1) = 0", "create(12, 8, false) = FULL", "image(0, 1) = 1", "sync() = 0",
            "create(0, 3, true) = FULL", "create(0, 1, true) = EXISTS", "create(6, 9, false) = FULL");
        Calls.on(withoutInodes(), "a SYNC gives an inode back",
            "sync() = 3", "remove(12, 1) = 16", "cached(24, 4) = 1", "create(0, 3, false) = 16",
            "image(26, 0) = 0", "image(25, 20) = 0", "cached(25, 20) = 1");
        Calls.on(withoutInodes(), "without a SYNC when it was never on the disk",
            "remove(12, 2) = 17", "create(0, 3, true) = 17", "image(0, 1) = 0");
    }

    /** All 30 data blocks: the root's, that of directory 6, and 28 of ten files. */
    private static OrderedVolume withoutBlocks() {
        OrderedVolume volume = new OrderedVolume();
        Due.is("create(0, 1, true)", volume.create(0, 1, true), 6);
        int taken = 2;
        for (int n = 0; n < 10; n++) {
            int i = n < 7 ? volume.create(0, 2 + n, false) : volume.create(6, 2 + n, false);
            for (int k = 0; k < 3 && taken < 30; k++) {
                Due.is("a block is free", volume.write(i, 8 * k, 1) > 0, true);
                taken++;
            }
        }
        return volume;
    }

    private static void noBlock() {
        Calls.on(withoutBlocks(), "a directory needs a block, a file does not",
            "image(0, 1) = 0", "create(6, 1, true) = FULL", "image(0, 1) = 1", "sync() = 0",
            "create(6, 1, false) = 12");
        Calls.on(withoutBlocks(), "a SYNC frees a block",
            "sync() = 3", "cut(1, 2) = 1", "create(6, 1, true) = 12", "cached(25, 2) = 5", "image(1, 9) = 0");
        Calls.on(withoutBlocks(), "the block of another group",
            "cut(1, 2) = 1", "create(6, 1, true) = 12", "cached(25, 2) = 5", "cached(0, 9) = 1");
    }

    private static void whatTheTermsSay() {
        Calls.run("d is of the tree: not a directory that has a KIND and no entry any more",
            "create(0, 1, true) = 6", "sync() = 3", "remove(0, 1) = 6", "cached(13, 0) = 2", "cached(14, 0) = 0",
            "create(6, 1, false) = NONE", "create(6, 1, true) = NONE", "cached(14, 0) = 0");
        Calls.run("the most FREE inodes: one with a KIND and no mark is not FREE",
            "create(0, 1, true) = 6", "flush(13) = 1", "crash() = true", "cached(12, 0) = 0", "cached(13, 0) = 2",
            "create(0, 1, true) = 12", "create(0, 2, true) = 1");
        Calls.run("the entry is YOUNG until the table of its inode is written back",
            "create(0, 1, false) = 1", "flush(0) = 0", "flush(2) = 1", "image(2, 0) = 0", "flush(1) = 0",
            "flush(2) = 0", "image(2, 0) = 33");
        Calls.on(Setups.fileWordsBelow(), "cells of a FRESH block are places, whatever the disk has there",
            "create(2, 5, false) = 3", "cached(3, 0) = 163", "create(2, 3, true) = 8", "cached(3, 1) = 104",
            "image(3, 0) = 99");
    }

    private static void edges() {
        Calls.run("a name 1 .. 999, for a file and for a directory",
            "create(0, 0, false) = NONE", "create(0, 0, true) = NONE", "create(0, 1, false) = 1",
            "create(0, 2, true) = 6", "create(0, 998, false) = 2", "create(0, 999, true) = 12",
            "create(0, 1000, false) = NONE", "create(0, 1000, true) = NONE", "create(6, 1, true) = 7",
            "create(6, 999, false) = 8", "lookup(0, 1) = 1", "lookup(0, 999) = 12", "lookup(6, 999) = 8");
        Calls.run("d, the least and the greatest inode",
            "create(-1, 1, false) = NONE", "create(18, 1, false) = NONE", "create(17, 1, false) = NONE",
            "create(0, 1, false) = 1");
        Calls.on(Setups.everyInode(), "d is 17",
            "remove(12, 5) = 17", "create(12, 5, true) = 17", "remove(0, 3) = 1", "create(17, 1, false) = 1",
            "lookup(17, 1) = 1", "create(18, 1, false) = NONE");
        Calls.run("its KIND is set, a directory's first pointer names its block, an entry is made: LINKS 1",
            "create(0, 1, true) = 6", "cached(13, 0) = 2", "cached(13, 1) = 1", "cached(13, 2) = 14",
            "cached(13, 3) = 0", "cached(13, 4) = 0", "cached(2, 0) = 38", "create(6, 2, false) = 7",
            "cached(13, 5) = 1", "cached(13, 6) = 1", "cached(13, 7) = 0", "cached(14, 0) = 71");
        Calls.run("seven entries are not eight",
            "create(0, 1, false) = 1", "create(0, 2, false) = 2", "create(0, 3, false) = 3",
            "create(0, 4, false) = 4", "create(0, 5, false) = 5", "create(0, 6, false) = 6",
            "create(0, 7, false) = 7", "create(0, 8, true) = 12", "create(0, 9, true) = FULL",
            "remove(0, 1) = 1", "create(0, 9, true) = 13");
        Calls.run("eight in memory, not on the disk: one that is removed does not count",
            "create(0, 1, false) = 1", "link(0, 2, 1) = 2", "link(0, 3, 1) = 3", "link(0, 4, 1) = 4",
            "link(0, 5, 1) = 5", "link(0, 6, 1) = 6", "link(0, 7, 1) = 7", "link(0, 8, 1) = 8", "sync() = 1",
            "create(0, 9, false) = FULL", "remove(0, 8) = 1", "create(0, 8, false) = 2", "cached(2, 7) = 258");
        Calls.on(Setups.everyBlock(), "a file needs no block, and no SYNC is made for it",
            "create(0, 7, false) = 5", "image(0, 1) = 0", "create(0, 8, true) = FULL", "image(0, 5) = 1");
        Calls.on(Setups.everyInode(), "the last free inode, and none",
            "remove(0, 7) = 5", "create(0, 7, false) = 5", "image(0, 1) = 0", "create(0, 8, false) = FULL",
            "image(0, 1) = 1");
    }
}
