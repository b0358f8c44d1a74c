/** GIVING BACK: RELEASED inodes and DROPPED blocks, at once or later, step after step. */
public final class TermsGivingBackTest {
    public static void main(String[] args) {
        released();
        dropped();
        freedWithEntries();
        marks();
        stepAfterStep();
        Due.end();
    }

    private static void released() {
        Calls.run("When LINKS falls to 0, not to 1",
            "create(0, 1, false) = 1", "write(1, 0, 1) = 3", "write(1, 16, 1) = 4", "link(0, 2, 1) = 2",
            "remove(0, 1) = 1", "cached(1, 5) = 1", "cached(1, 6) = 1", "cached(1, 7) = 3", "cached(1, 9) = 4",
            "read(1, 0) = 1", "remove(0, 2) = 1", "cached(1, 5) = 0", "cached(1, 6) = 0", "cached(1, 7) = 0",
            "cached(1, 9) = 0");
        Calls.run("its KIND and pointers become 0 in memory, all three, not on the disk",
            "create(0, 1, false) = 1", "write(1, 0, 1) = 3", "write(1, 8, 1) = 4", "write(1, 16, 1) = 5", "sync() = 2",
            "remove(0, 1) = 1", "cached(1, 5) = 1", "cached(1, 7) = 3", "flush(2) = 0", "cached(1, 5) = 0",
            "cached(1, 6) = 0", "cached(1, 7) = 0", "cached(1, 8) = 0", "cached(1, 9) = 0", "image(1, 5) = 1",
            "image(1, 6) = 1", "image(1, 7) = 3", "image(1, 9) = 5");
        Calls.run("LINKS that are too high after a crash do not come to 0",
            "create(0, 1, false) = 1", "sync() = 1", "link(0, 2, 1) = 2", "flush(1) = 0", "crash() = true",
            "cached(1, 6) = 2", "remove(0, 1) = 1", "flush(2) = 0", "cached(1, 6) = 1", "cached(1, 5) = 1",
            "sync() = 1", "cached(1, 5) = 1", "cached(0, 1) = 1", "defects(3) = 1", "reclaim() = 1",
            "cached(1, 6) = 0");
    }

    private static void dropped() {
        Calls.run("freed at once when no pointer on the disk names it",
            "create(0, 1, false) = 1", "write(1, 0, 1) = 3", "write(1, 8, 1) = 4", "cut(1, 1) = 1", "cached(0, 8) = 0",
            "remove(0, 1) = 1", "cached(0, 7) = 0");
        Calls.run("freed at once when its pointer was held back there",
            "create(0, 1, false) = 1", "write(1, 0, 1) = 3", "flush(0) = 0", "flush(1) = 1", "cut(1, 0) = 1",
            "cached(0, 7) = 0", "image(0, 7) = 1");
        Calls.run("as soon as no pointer in the tables of the disk names it",
            "create(0, 1, false) = 1", "write(1, 0, 1) = 3", "sync() = 2", "cut(1, 0) = 1", "cached(0, 7) = 1",
            "flush(0) = 0", "flush(2) = 0", "flush(3) = 0", "flush(13) = 0", "cached(0, 7) = 1", "flush(1) = 0",
            "cached(0, 7) = 0", "image(1, 7) = 0");
        Calls.run("not while the pointer that comes after it is held back",
            "create(0, 1, false) = 1", "write(1, 0, 1) = 3", "sync() = 2", "cut(1, 0) = 1", "write(1, 0, 2) = 4",
            "flush(1) = 1", "image(1, 7) = 3", "cached(0, 7) = 1", "flush(4) = 0", "flush(1) = 1", "cached(0, 7) = 1",
            "flush(0) = 0", "flush(1) = 0", "image(1, 7) = 4", "cached(0, 7) = 0");
        Calls.run("not when the table of another group is written back",
            "create(0, 1, true) = 6", "create(6, 1, false) = 7", "write(7, 0, 1) = 15", "create(0, 2, false) = 1",
            "write(1, 0, 1) = 3", "sync() = 3", "cut(7, 0) = 1", "cut(1, 0) = 1", "flush(1) = 0", "cached(0, 7) = 0",
            "cached(12, 7) = 1", "flush(25) = 0", "cached(12, 7) = 1", "flush(13) = 0", "cached(12, 7) = 0");
        Calls.run("LINKS that are as its number are no pointer to it",
            "create(0, 1, false) = 1", "link(0, 2, 1) = 2", "link(0, 3, 1) = 3", "create(0, 4, false) = 2",
            "write(2, 0, 8) = 3", "sync() = 2", "write(2, 0, 9) = 3", "cut(2, 0) = 1", "image(1, 6) = 3",
            "cached(1, 6) = 3", "flush(1) = 0", "cached(0, 7) = 0", "flush(3) = 0", "image(3, 0) = 8", "sync() = 1",
            "sync() = 0", "image(3, 0) = 8");
        Calls.run("some of three pointers",
            "create(0, 1, false) = 1", "write(1, 0, 1) = 3", "write(1, 8, 1) = 4", "sync() = 2", "write(1, 16, 1) = 5",
            "cut(1, 0) = 3", "cached(0, 7) = 1", "cached(0, 8) = 1", "cached(0, 9) = 0", "flush(1) = 0",
            "cached(0, 7) = 0", "cached(0, 8) = 0");
        Calls.run("a block that was dropped keeps its cells",
            "create(0, 1, false) = 1", "write(1, 7, 9) = 3", "cut(1, 0) = 1", "cached(3, 7) = 9", "flush(3) = 0",
            "image(3, 7) = 0", "cached(3, 7) = 9");
    }

    private static void freedWithEntries() {
        Calls.on(Setups.after("create(0, 1, true) = 6",
            "create(6, 1, false) = 7", "create(6, 2, false) = 8", "create(6, 3, false) = 9", "create(6, 4, false) = 10",
            "create(6, 5, false) = 11", "create(6, 6, false) = 12", "create(6, 7, false) = 13",
            "create(6, 8, false) = 14", "link(0, 2, 7) = 2", "link(0, 3, 14) = 2", "sync() = 3",
            "remove(6, 1) = 7", "remove(6, 2) = 8", "remove(6, 3) = 9", "remove(6, 4) = 10", "remove(6, 5) = 11",
            "remove(6, 6) = 12", "remove(6, 7) = 13", "remove(6, 8) = 14", "remove(0, 1) = 6"),
            "LINKS falls for each entry on the disk: all eight",
            "flush(2) = 0", "cached(13, 6) = 2", "cached(13, 10) = 1", "cached(25, 1) = 1", "cached(25, 11) = 2",
            "flush(13) = 0", "cached(13, 6) = 1", "cached(13, 5) = 1", "cached(13, 10) = 0", "cached(13, 11) = 0",
            "cached(13, 15) = 0", "cached(13, 20) = 0", "cached(13, 25) = 0", "cached(25, 0) = 0", "cached(25, 5) = 0",
            "cached(25, 10) = 1", "cached(25, 11) = 1", "image(14, 0) = 39", "image(14, 7) = 270",
            "cached(12, 2) = 1", "cached(24, 0) = 1", "flush(13) = 0", "cached(12, 2) = 0", "cached(24, 0) = 1",
            "flush(25) = 0", "cached(24, 0) = 0", "cached(24, 1) = 0", "cached(24, 2) = 1");
        Calls.run("no entry on the disk: nothing falls",
            "create(0, 1, true) = 6", "create(6, 1, false) = 7", "link(0, 2, 7) = 2", "sync() = 3", "remove(6, 1) = 7",
            "flush(14) = 0", "cached(13, 6) = 1", "remove(0, 1) = 6", "flush(2) = 0", "flush(13) = 0",
            "cached(12, 6) = 0", "cached(13, 6) = 1", "lookup(0, 2) = 7");
        Calls.run("if it was a directory's: the words of a file are no entries",
            "create(0, 1, false) = 1", "create(0, 2, false) = 2", "write(2, 0, 33) = 3", "write(2, 7, 65) = 3",
            "sync() = 2", "cut(2, 0) = 1", "flush(1) = 0", "cached(0, 7) = 0", "image(3, 0) = 33", "cached(1, 6) = 1",
            "lookup(0, 1) = 1", "write(2, 0, 33) = 3", "sync() = 2", "remove(0, 2) = 2", "sync() = 3",
            "cached(0, 7) = 0", "cached(1, 6) = 1", "cached(1, 5) = 1");
        Calls.run("a FRESH directory's block has no entries on the disk",
            "create(0, 1, false) = 1", "write(1, 0, 33) = 3", "sync() = 2", "cut(1, 0) = 1", "flush(1) = 0",
            "create(0, 2, true) = 6", "create(0, 3, true) = 12", "create(0, 4, true) = 7", "create(0, 5, true) = 13",
            "create(0, 6, true) = 2", "cached(1, 12) = 3", "remove(0, 6) = 2", "cached(0, 7) = 0", "image(3, 0) = 33",
            "cached(1, 6) = 1", "cached(1, 5) = 1");
        Calls.run("entries that memory alone had do not fall again",
            "create(0, 1, true) = 6", "create(0, 2, false) = 1", "sync() = 3", "link(6, 1, 1) = 2", "remove(6, 1) = 1",
            "cached(1, 6) = 1", "remove(0, 1) = 6", "flush(2) = 0", "flush(13) = 0", "cached(12, 6) = 0",
            "cached(1, 6) = 1");
    }

    private static void marks() {
        Calls.run("the mark of a RELEASED inode at once when its KIND on the disk is 0",
            "create(0, 1, false) = 1", "flush(0) = 0", "remove(0, 1) = 1", "cached(0, 1) = 0", "image(0, 1) = 1",
            "create(0, 1, true) = 6", "flush(12) = 0", "remove(0, 1) = 6", "cached(12, 0) = 0", "cached(12, 6) = 0");
        Calls.run("as soon as its KIND on the disk is 0",
            "create(0, 1, false) = 1", "flush(1) = 0", "remove(0, 1) = 1", "cached(1, 5) = 0", "cached(0, 1) = 1",
            "flush(0) = 0", "flush(2) = 0", "cached(0, 1) = 1", "image(1, 5) = 1", "flush(1) = 0", "image(1, 5) = 0",
            "cached(0, 1) = 0");
        Calls.run("the mark of a directory's inode and of its block, in either order",
            "create(0, 1, true) = 6", "flush(13) = 1", "remove(0, 1) = 6", "cached(12, 0) = 1", "cached(12, 6) = 0",
            "flush(13) = 0", "cached(12, 0) = 0");
        Calls.run("an inode taken again is not RELEASED any more",
            "create(0, 1, false) = 1", "remove(0, 1) = 1", "create(0, 2, false) = 1", "flush(1) = 0", "flush(0) = 0",
            "cached(0, 1) = 1", "sync() = 1", "cached(0, 1) = 1", "lookup(0, 2) = 1");
    }

    private static void stepAfterStep() {
        Calls.run("as often as one such step makes another possible: a freed directory, its file, the file's block",
            "create(0, 1, true) = 6", "create(6, 1, false) = 7", "sync() = 3", "write(7, 0, 5) = 15",
            "remove(6, 1) = 7", "remove(0, 1) = 6", "flush(2) = 0", "cached(13, 0) = 0", "cached(13, 5) = 1",
            "cached(12, 7) = 1", "flush(13) = 1", "cached(12, 0) = 0", "cached(12, 6) = 0", "cached(13, 5) = 0",
            "cached(13, 6) = 0", "cached(13, 7) = 0", "cached(12, 7) = 0", "cached(12, 1) = 1", "image(13, 5) = 1",
            "flush(13) = 0", "cached(12, 1) = 0");
        Calls.run("the file's block has a lower number than the directory's",
            "create(0, 1, true) = 6", "create(0, 2, false) = 1", "sync() = 3", "link(6, 1, 1) = 2", "sync() = 1",
            "remove(0, 2) = 1", "sync() = 2", "write(1, 0, 5) = 3", "remove(6, 1) = 1", "remove(0, 1) = 6",
            "flush(2) = 0", "cached(1, 5) = 1", "flush(13) = 0", "cached(12, 6) = 0", "cached(1, 5) = 0",
            "cached(0, 7) = 0", "cached(0, 1) = 1", "flush(1) = 0", "cached(0, 1) = 0");
        Calls.run("in a directory's write-back: the cell, LINKS, the inode, the block that the disk never had",
            "create(0, 1, false) = 1", "sync() = 1", "write(1, 8, 5) = 3", "remove(0, 1) = 1", "cached(0, 7) = 1",
            "flush(2) = 0", "cached(1, 5) = 0", "cached(0, 7) = 0", "cached(0, 1) = 1");
        Calls.run("a table's write-back by itself: what is given back by it comes after it",
            "create(0, 1, true) = 6", "create(6, 1, true) = 12", "create(6, 2, true) = 1", "create(1, 1, false) = 2",
            "rename(6, 1, 1, 2) = 12", "sync() = 3", "remove(1, 2) = 12", "remove(1, 1) = 2", "remove(6, 2) = 1",
            "remove(0, 1) = 6", "flush(2) = 0", "flush(13) = 0", "cached(1, 5) = 0", "cached(1, 10) = 1",
            "cached(0, 7) = 1", "flush(1) = 0", "cached(0, 1) = 0", "cached(0, 7) = 0", "cached(1, 10) = 0",
            "image(1, 10) = 1", "cached(0, 2) = 1", "cached(25, 0) = 0", "image(25, 0) = 2", "cached(24, 0) = 1",
            "flush(1) = 0", "cached(0, 2) = 0", "flush(25) = 0", "cached(24, 0) = 0", "cached(24, 6) = 0");
    }
}
