/** WRITING BACK: what goes to the disk, what is HELD BACK, and what is not touched. */
public final class TermsWritingBackTest {
    public static void main(String[] args) {
        map();
        table();
        tableHoldsBack();
        fileBlock();
        freshDirectory();
        entryWaits();
        entryStays();
        order();
        nothingIsDone();
        Due.end();
    }

    private static void map() {
        Calls.on(Setups.everyBlock(), "A MAP: all its cells go to the disk, and nothing of another block",
            "flush(12) = 0", "image(12, 0) = 1", "image(12, 3) = 1", "image(12, 4) = 0", "image(12, 6) = 1",
            "image(12, 15) = 1", "image(0, 1) = 0", "image(0, 15) = 0", "image(24, 0) = 0", "image(13, 0) = 0",
            "flush(0) = 0", "image(0, 1) = 1", "image(0, 15) = 1", "flush(24) = 0", "image(24, 15) = 1");
        Calls.run("also those that became 0",
            "create(0, 1, false) = 1", "write(1, 0, 1) = 3", "flush(0) = 0", "image(0, 1) = 1", "image(0, 7) = 1",
            "remove(0, 1) = 1", "image(0, 1) = 1", "flush(0) = 0", "image(0, 1) = 0", "image(0, 7) = 0",
            "image(0, 0) = 1", "image(0, 6) = 1");
    }

    private static void table() {
        Calls.run("every KIND and LINKS goes to the disk, though nothing else is there",
            "create(0, 1, false) = 1", "link(0, 2, 1) = 2", "create(0, 3, false) = 2", "flush(1) = 0", "image(1, 5) = 1",
            "image(1, 6) = 2", "image(1, 10) = 1", "image(1, 11) = 1", "image(0, 1) = 0", "image(2, 0) = 0");
        Calls.run("the first and the last inode of a group",
            "create(0, 1, true) = 6", "create(6, 1, false) = 7", "create(6, 2, false) = 8", "create(6, 3, false) = 9",
            "create(6, 4, false) = 10", "create(6, 5, false) = 11", "write(11, 23, 4) = 15", "flush(12) = 0",
            "flush(15) = 0", "flush(14) = 5", "flush(13) = 0", "image(13, 0) = 2", "image(13, 2) = 14",
            "image(13, 25) = 1", "image(13, 26) = 1", "image(13, 29) = 15", "image(1, 5) = 0", "image(25, 0) = 0");
        Calls.run("a pointer that is 0 goes at once",
            "create(0, 1, false) = 1", "write(1, 0, 1) = 3", "write(1, 8, 1) = 4", "write(1, 16, 1) = 5", "sync() = 2",
            "cut(1, 0) = 3", "flush(1) = 0", "image(1, 7) = 0", "image(1, 8) = 0", "image(1, 9) = 0");
        Calls.run("as memory and disk are at the beginning; what is given back by it comes after it",
            "create(0, 1, true) = 6", "create(6, 1, false) = 7", "write(7, 0, 1) = 15", "sync() = 3", "remove(6, 1) = 7",
            "remove(0, 1) = 6", "flush(2) = 0", "flush(13) = 0", "cached(13, 5) = 0", "cached(13, 6) = 0",
            "cached(13, 7) = 0", "image(13, 5) = 1", "image(13, 6) = 1", "image(13, 7) = 15", "cached(12, 1) = 1",
            "cached(12, 7) = 1");
    }

    private static void tableHoldsBack() {
        Calls.run("when the mark of the block that it names is 0 on the disk",
            "create(0, 1, false) = 1", "write(1, 0, 1) = 3", "flush(3) = 0", "flush(1) = 1", "image(1, 7) = 0",
            "image(1, 5) = 1", "flush(0) = 0", "flush(1) = 0", "image(1, 7) = 3");
        Calls.run("or that block is FRESH",
            "create(0, 1, false) = 1", "write(1, 0, 1) = 3", "flush(0) = 0", "flush(1) = 1", "image(1, 7) = 0",
            "flush(3) = 0", "flush(1) = 0", "image(1, 7) = 3");
        Calls.run("a block of another group: its own map",
            "create(0, 1, true) = 6", "create(0, 2, false) = 1", "create(0, 3, false) = 2", "create(0, 4, false) = 3",
            "create(0, 5, false) = 4", "write(1, 0, 1) = 3", "write(1, 8, 1) = 4", "write(1, 16, 1) = 5",
            "write(2, 0, 1) = 6", "write(2, 8, 1) = 7", "write(2, 16, 1) = 8", "write(3, 0, 1) = 9",
            "write(3, 8, 1) = 10", "write(3, 16, 1) = 11", "sync() = 3", "write(4, 0, 1) = 15", "flush(15) = 0",
            "flush(0) = 0", "flush(1) = 1", "image(1, 22) = 0", "flush(12) = 0", "flush(1) = 0", "image(1, 22) = 15");
        Calls.run("each of the three, and the others go",
            "create(0, 1, false) = 1", "write(1, 0, 1) = 3", "write(1, 8, 1) = 4", "write(1, 16, 1) = 5", "flush(0) = 0",
            "flush(1) = 3", "flush(4) = 0", "flush(1) = 2", "image(1, 7) = 0", "image(1, 8) = 4", "image(1, 9) = 0",
            "flush(5) = 0", "flush(1) = 1", "image(1, 9) = 5", "flush(3) = 0", "flush(1) = 0", "image(1, 7) = 3");
        Calls.run("the disk keeps what it has, and what is the same is not held back",
            "create(0, 1, false) = 1", "write(1, 0, 1) = 3", "write(1, 8, 1) = 4", "sync() = 2", "cut(1, 0) = 2",
            "write(1, 8, 2) = 5", "write(1, 0, 2) = 6", "flush(1) = 2", "image(1, 7) = 3", "image(1, 8) = 4",
            "flush(5) = 0", "flush(1) = 2", "flush(0) = 0", "flush(1) = 1", "image(1, 7) = 3", "image(1, 8) = 5",
            "flush(1) = 1", "flush(6) = 0", "flush(1) = 0", "image(1, 7) = 6", "flush(1) = 0");
        Calls.run("a block that the disk has marked from an earlier use, but FRESH",
            "create(0, 1, false) = 1", "write(1, 0, 1) = 3", "sync() = 2", "cut(1, 0) = 1", "flush(1) = 0",
            "create(0, 2, false) = 2", "write(2, 0, 2) = 3", "image(0, 7) = 1", "flush(1) = 1", "image(1, 12) = 0",
            "image(3, 0) = 1", "flush(3) = 0", "flush(1) = 0", "image(1, 12) = 3", "image(3, 0) = 2");
    }

    private static void fileBlock() {
        Calls.run("A DATA block that a file's pointer in memory names: all its cells, by any of three pointers",
            "create(0, 1, false) = 1", "write(1, 0, 10) = 3", "write(1, 7, 17) = 3", "write(1, 8, 18) = 4",
            "write(1, 15, 25) = 4", "write(1, 16, 26) = 5", "write(1, 23, 33) = 5", "flush(3) = 0", "image(3, 0) = 10",
            "image(3, 7) = 17", "image(4, 0) = 0", "flush(4) = 0", "image(4, 0) = 18", "image(4, 7) = 25",
            "flush(5) = 0", "image(5, 0) = 26", "image(5, 7) = 33");
        Calls.run("words that look like entries go as they are",
            "create(0, 1, false) = 1", "write(1, 0, 34) = 3", "write(1, 1, -1) = 3", "flush(3) = 0", "image(3, 0) = 34",
            "image(3, 1) = -1", "write(1, 0, 0) = 3", "flush(3) = 0", "image(3, 0) = 0", "image(3, 1) = -1");
        Calls.run("a file that is not in the tree any more, but not released",
            "create(0, 1, false) = 1", "write(1, 0, 5) = 3", "sync() = 2", "write(1, 0, 6) = 3", "remove(0, 1) = 1",
            "flush(3) = 0", "image(3, 0) = 6", "flush(2) = 0", "cached(1, 7) = 0", "flush(3) = 0", "image(3, 0) = 6");
    }

    private static void freshDirectory() {
        Calls.run("if it is FRESH, its cells on the disk become 0 first, and it is FRESH no more",
            "create(0, 1, false) = 1", "write(1, 0, 99) = 3", "write(1, 3, 33) = 3", "write(1, 7, 98) = 3", "sync() = 2",
            "cut(1, 0) = 1", "flush(1) = 0", "create(0, 2, true) = 6", "create(0, 3, true) = 12",
            "create(0, 4, true) = 7", "create(0, 5, true) = 13", "create(0, 6, true) = 2", "cached(1, 12) = 3",
            "image(3, 3) = 33", "flush(1) = 1", "flush(3) = 0", "image(3, 0) = 0", "image(3, 3) = 0", "image(3, 7) = 0",
            "cached(1, 6) = 1", "flush(1) = 0", "image(1, 12) = 3");
        Calls.run("an empty directory's block is written back too",
            "create(0, 1, true) = 6", "flush(12) = 0", "flush(13) = 1", "flush(14) = 0", "flush(13) = 0",
            "image(13, 2) = 14", "flush(2) = 0", "image(2, 0) = 38");
    }

    private static void entryWaits() {
        Calls.run("held back when it is YOUNG, though mark and KIND are on the disk",
            "create(0, 1, false) = 1", "sync() = 1", "link(0, 2, 1) = 2", "flush(2) = 1", "image(2, 1) = 0",
            "flush(1) = 0", "flush(2) = 0", "image(2, 1) = 65");
        Calls.run("or the mark of its inode is 0 on the disk",
            "create(0, 1, false) = 1", "flush(1) = 0", "flush(2) = 1", "flush(12) = 0", "flush(2) = 1", "flush(0) = 0",
            "flush(2) = 0", "image(2, 0) = 33");
        Calls.run("or its inode is a directory whose first pointer on the disk is 0",
            "create(0, 1, true) = 6", "flush(12) = 0", "flush(13) = 1", "flush(2) = 1", "flush(14) = 0", "flush(2) = 1",
            "flush(13) = 0", "flush(2) = 0", "image(2, 0) = 38");
        Calls.run("a file's first pointer may be 0 there",
            "create(0, 1, false) = 1", "write(1, 0, 5) = 3", "flush(0) = 0", "flush(1) = 1", "image(1, 7) = 0",
            "flush(2) = 0", "image(2, 0) = 33", "defects(0) = 0");
        Calls.run("each for itself: others of the same block go",
            "create(0, 1, false) = 1", "create(0, 2, true) = 6", "create(0, 3, false) = 2", "flush(2) = 3",
            "flush(0) = 0", "flush(1) = 0", "flush(2) = 1", "image(2, 0) = 33", "image(2, 1) = 0", "image(2, 2) = 98");
        Calls.on(Setups.fullRoot(), "all eight are held back",
            "flush(2) = 8", "image(2, 0) = 0", "image(2, 7) = 0", "flush(0) = 0", "flush(1) = 0", "flush(2) = 3",
            "image(2, 4) = 165", "image(2, 5) = 0");
    }

    private static void entryStays() {
        Calls.run("the last way on the disk to an inode of both trees",
            "create(0, 1, false) = 1", "create(0, 2, true) = 6", "sync() = 3", "rename(0, 1, 6, 1) = 1", "flush(2) = 1",
            "image(2, 0) = 33", "flush(1) = 0", "flush(14) = 0", "flush(2) = 0", "image(2, 0) = 0", "image(14, 0) = 33");
        Calls.run("not in the tree of memory: it goes",
            "create(0, 1, false) = 1", "sync() = 1", "remove(0, 1) = 1", "flush(2) = 0", "image(2, 0) = 0");
        Calls.run("another way on the disk: it goes",
            "create(0, 1, false) = 1", "link(0, 2, 1) = 2", "sync() = 1", "remove(0, 1) = 1", "flush(2) = 0",
            "image(2, 0) = 0", "image(2, 1) = 65");
        Calls.run("another way, but only in a directory that the tree of the disk does not have",
            "create(0, 1, false) = 1", "sync() = 1", "create(0, 2, true) = 6", "link(6, 1, 1) = 2", "remove(0, 1) = 1",
            "flush(12) = 0", "flush(1) = 0", "flush(14) = 0", "image(14, 0) = 33", "flush(2) = 2", "image(2, 0) = 33",
            "flush(13) = 0", "flush(2) = 1", "image(2, 0) = 33", "image(2, 1) = 70", "flush(2) = 0",
            "image(2, 0) = 0", "cached(1, 6) = 1");
        Calls.run("what lies below it: a file in a directory that moves",
            "create(0, 1, true) = 6", "create(0, 2, true) = 12", "create(6, 1, false) = 7", "sync() = 3",
            "rename(0, 1, 12, 1) = 6", "flush(2) = 1", "flush(13) = 0", "flush(2) = 1", "image(2, 0) = 38",
            "flush(26) = 0", "image(26, 0) = 38", "flush(2) = 0", "image(2, 0) = 0");
        Calls.run("what lies below it, though it itself is removed",
            "create(0, 1, true) = 6", "create(6, 2, false) = 7", "sync() = 3", "rename(6, 2, 0, 3) = 7",
            "remove(0, 1) = 6", "flush(2) = 2", "image(2, 0) = 38", "image(2, 1) = 0", "flush(13) = 0", "flush(2) = 1",
            "image(2, 0) = 38", "image(2, 1) = 103", "cached(13, 0) = 2", "flush(2) = 0", "cached(13, 0) = 0");
        Calls.run("held back with those before it as they were left: one of two may go",
            "create(0, 1, false) = 1", "link(0, 2, 1) = 2", "link(0, 3, 1) = 3", "create(0, 4, true) = 6", "sync() = 3",
            "link(6, 1, 1) = 4", "remove(0, 1) = 1", "remove(0, 2) = 1", "remove(0, 3) = 1", "flush(2) = 1",
            "image(2, 0) = 0", "image(2, 1) = 0", "image(2, 2) = 97", "cached(1, 6) = 2", "flush(1) = 0",
            "flush(14) = 0", "flush(2) = 0", "image(2, 2) = 0", "cached(1, 6) = 1");
        Calls.run("a cell of a directory that the tree of the disk does not have may go",
            "create(0, 1, true) = 6", "create(6, 1, false) = 7", "link(6, 2, 7) = 2", "sync() = 3", "remove(6, 1) = 7",
            "remove(6, 2) = 7", "remove(0, 1) = 6", "flush(14) = 0", "image(14, 0) = 0", "image(14, 1) = 0",
            "cached(13, 6) = 0", "cached(13, 5) = 0", "cached(13, 0) = 2");
    }

    private static void order() {
        Calls.run("the cells 0 .. 7 in this order: the new way in a lower cell lets the old one go",
            "create(0, 1, false) = 1", "create(0, 2, false) = 2", "sync() = 1", "remove(0, 1) = 1", "flush(2) = 0",
            "rename(0, 2, 0, 3) = 2", "cached(2, 0) = 98", "flush(1) = 0", "flush(2) = 0", "image(2, 0) = 98",
            "image(2, 1) = 0");
        Calls.run("the new way in a higher cell comes too late for this write-back",
            "create(0, 1, false) = 1", "sync() = 1", "rename(0, 1, 0, 2) = 1", "flush(1) = 0", "flush(2) = 1",
            "image(2, 0) = 33", "image(2, 1) = 65", "flush(2) = 0", "image(2, 0) = 0", "image(2, 1) = 65");
        Calls.run("the last cell is written too",
            "create(0, 1, false) = 1", "link(0, 2, 1) = 2", "link(0, 3, 1) = 3", "link(0, 4, 1) = 4",
            "link(0, 5, 1) = 5", "link(0, 6, 1) = 6", "link(0, 7, 1) = 7", "link(0, 8, 1) = 8", "flush(0) = 0",
            "flush(1) = 0", "flush(2) = 0", "image(2, 0) = 33", "image(2, 7) = 257", "remove(0, 8) = 1",
            "remove(0, 1) = 1", "flush(2) = 0", "image(2, 0) = 0", "image(2, 7) = 0", "cached(1, 6) = 6");
        Calls.run("nothing when memory and disk hold the same",
            "create(0, 1, false) = 1", "create(0, 2, true) = 6", "sync() = 3", "flush(2) = 0", "flush(14) = 0",
            "image(2, 0) = 33", "image(2, 1) = 70", "cached(1, 6) = 1", "flush(1) = 0", "flush(13) = 0", "sync() = 0");
    }

    private static void nothingIsDone() {
        Calls.run("A data block that no pointer in memory names: never taken",
            "flush(3) = 0", "flush(11) = 0", "flush(14) = 0", "flush(35) = 0", "image(35, 0) = 0", "sync() = 0");
        Calls.run("a file's that was dropped, or freed",
            "create(0, 1, false) = 1", "write(1, 0, 7) = 3", "sync() = 2", "write(1, 0, 9) = 3", "cut(1, 0) = 1",
            "flush(3) = 0", "image(3, 0) = 7", "flush(1) = 0", "cached(0, 7) = 0", "flush(3) = 0", "image(3, 0) = 7",
            "cached(3, 0) = 9");
        Calls.run("a directory's that was dropped, or freed",
            "create(0, 1, true) = 6", "create(6, 1, false) = 7", "link(0, 2, 7) = 2", "sync() = 3", "remove(6, 1) = 7",
            "remove(0, 1) = 6", "flush(2) = 0", "flush(14) = 0", "image(14, 0) = 39", "cached(13, 6) = 2",
            "flush(13) = 0", "flush(14) = 0", "image(14, 0) = 39", "cached(13, 6) = 1");
        Calls.run("a FRESH one that was cut off again",
            "create(0, 1, false) = 1", "write(1, 0, 7) = 3", "cut(1, 0) = 1", "flush(3) = 0", "image(3, 0) = 0",
            "cached(3, 0) = 7", "sync() = 1", "image(3, 0) = 0");
    }
}
