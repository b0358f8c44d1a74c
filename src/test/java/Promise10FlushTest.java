/** Promise 10: flush, and what a write-back holds back. */
public final class Promise10FlushTest {
    public static void main(String[] args) {
        Calls.run("the range of blocks",
            "flush(-1) = NONE", "flush(36) = NONE", "flush(MIN) = NONE", "flush(MAX) = NONE", "flush(0) = 0",
            "flush(1) = 0", "flush(2) = 0", "flush(12) = 0", "flush(13) = 0", "flush(14) = 0", "flush(35) = 0");
        pointers();
        entries();
        lostWays();
        dataBlocks();
        Calls.run("an entry goes from the disk though memory has an inode that the disk has not",
            "create(0, 1, false) = 1", "sync() = 1", "remove(0, 1) = 1", "create(0, 2, false) = 2", "flush(2) = 1",
            "image(2, 0) = 0", "image(2, 1) = 0");
        Calls.on(Setups.everyBlock(), "a pointer to the last block waits for its mark and its cells",
            "flush(25) = 7", "image(25, 14) = 0", "flush(24) = 0", "flush(25) = 7", "flush(35) = 0", "flush(25) = 6",
            "image(25, 14) = 35", "image(25, 13) = 0");
        Due.end();
    }

    private static void pointers() {
        Calls.run("a pointer waits while the block is FRESH",
            "create(0, 1, false) = 1", "write(1, 0, 7) = 3", "flush(0) = 0", "image(0, 1) = 1", "image(0, 7) = 1",
            "flush(1) = 1", "image(1, 5) = 1", "image(1, 6) = 1", "image(1, 7) = 0", "flush(3) = 0",
            "image(3, 0) = 7", "flush(1) = 0", "image(1, 7) = 3");
        Calls.run("a pointer waits for the mark of its block",
            "create(0, 1, false) = 1", "write(1, 0, 7) = 3", "write(1, 8, 8) = 4", "flush(3) = 0", "flush(4) = 0",
            "flush(1) = 2", "image(1, 7) = 0", "image(1, 8) = 0", "flush(0) = 0", "flush(1) = 0",
            "image(1, 7) = 3", "image(1, 8) = 4");
        Calls.run("a pointer that the disk has stays, another waits, a 0 goes",
            "create(0, 1, false) = 1", "write(1, 0, 7) = 3", "write(1, 8, 8) = 4", "write(1, 16, 9) = 5",
            "sync() = 2", "cut(1, 1) = 2", "write(1, 8, 6) = 6", "flush(1) = 1", "image(1, 7) = 3",
            "image(1, 8) = 4", "image(1, 9) = 0", "cached(0, 9) = 0", "cached(0, 8) = 1");
        Calls.run("a block taken again is FRESH again",
            "create(0, 1, false) = 1", "write(1, 0, 7) = 3", "sync() = 2", "cut(1, 0) = 1", "flush(1) = 0",
            "cached(0, 7) = 0", "image(0, 7) = 1", "write(1, 0, 8) = 3", "flush(1) = 1", "image(1, 7) = 0",
            "flush(3) = 0", "flush(1) = 0", "image(1, 7) = 3");
    }

    private static void entries() {
        Calls.run("an entry waits while it is YOUNG, for its mark, and a directory's for its block",
            "create(0, 1, true) = 6", "flush(0) = 0", "flush(1) = 0", "flush(2) = 1", "flush(12) = 0", "flush(2) = 1",
            "flush(13) = 1", "image(13, 0) = 2", "image(13, 2) = 0", "flush(2) = 1", "flush(14) = 0", "flush(2) = 1",
            "flush(13) = 0", "image(13, 2) = 14", "image(2, 0) = 0", "flush(2) = 0", "image(2, 0) = 38");
        Calls.run("an entry waits for the mark of its inode",
            "create(0, 1, false) = 1", "flush(1) = 0", "flush(2) = 1", "image(2, 0) = 0", "flush(0) = 0",
            "flush(2) = 0", "image(2, 0) = 33");
        Calls.run("a second entry is YOUNG of its own",
            "create(0, 1, false) = 1", "sync() = 1", "link(0, 2, 1) = 2", "create(0, 3, false) = 2",
            "flush(0) = 0", "flush(2) = 2", "flush(13) = 0", "flush(2) = 2", "flush(1) = 0", "link(0, 4, 1) = 3",
            "flush(2) = 1", "image(2, 1) = 65", "image(2, 2) = 98", "image(2, 3) = 0");
        Calls.run("a FRESH directory's cells become 0 first",
            "create(0, 1, false) = 1", "write(1, 0, 99) = 3", "write(1, 7, 98) = 3", "sync() = 2",
            "cut(1, 0) = 1", "sync() = 2", "create(0, 2, true) = 6", "create(0, 3, true) = 12",
            "create(0, 4, true) = 7", "create(0, 5, true) = 13", "create(0, 6, true) = 2",
            "create(2, 1, false) = 3", "image(3, 0) = 99", "flush(3) = 1", "image(3, 0) = 0", "image(3, 7) = 0",
            "flush(0) = 0", "flush(1) = 0", "image(1, 12) = 3", "flush(3) = 0", "image(3, 0) = 35");
        Calls.run("a FRESH directory that is removed had no entries on the disk",
            "create(0, 1, false) = 1", "write(1, 0, 33) = 3", "sync() = 2", "cut(1, 0) = 1", "sync() = 2",
            "create(0, 2, true) = 6", "create(0, 3, true) = 12", "create(0, 4, true) = 7",
            "create(0, 5, true) = 13", "create(0, 6, true) = 2", "cached(1, 12) = 3", "image(3, 0) = 33",
            "remove(0, 6) = 2", "cached(0, 7) = 0", "cached(1, 6) = 1", "lookup(0, 1) = 1");
    }

    private static void lostWays() {
        Calls.run("the last way to a file stays until another is on the disk",
            "create(0, 1, false) = 1", "create(0, 2, true) = 6", "sync() = 3", "rename(0, 1, 6, 3) = 1",
            "flush(2) = 1", "image(2, 0) = 33", "flush(14) = 1", "flush(1) = 0", "flush(2) = 1", "flush(14) = 0",
            "image(14, 0) = 97", "cached(1, 6) = 2", "flush(2) = 0", "image(2, 0) = 0", "cached(1, 6) = 1");
        Calls.run("the way to what lies below a directory stays",
            "create(0, 1, true) = 6", "create(6, 2, false) = 7", "sync() = 3", "rename(6, 2, 0, 3) = 7",
            "remove(0, 1) = 6", "flush(13) = 0", "flush(2) = 1", "image(2, 0) = 38", "image(2, 1) = 103",
            "flush(2) = 0", "image(2, 0) = 0");
        Calls.run("cells in their order: the new one before the old one",
            "create(0, 1, false) = 1", "create(0, 2, false) = 2", "sync() = 1", "remove(0, 1) = 1", "sync() = 3",
            "rename(0, 2, 0, 3) = 2", "cached(2, 0) = 98", "flush(1) = 0", "flush(2) = 0", "image(2, 0) = 98",
            "image(2, 1) = 0", "cached(1, 11) = 1");
        Calls.run("cells in their order: the old one before the new one",
            "create(0, 1, false) = 1", "sync() = 1", "rename(0, 1, 0, 2) = 1", "flush(1) = 0", "flush(2) = 1",
            "image(2, 0) = 33", "image(2, 1) = 65", "flush(2) = 0", "image(2, 0) = 0", "cached(1, 6) = 1");
        Calls.run("of two entries the second is the last way",
            "create(0, 1, false) = 1", "link(0, 2, 1) = 2", "create(0, 3, true) = 6", "sync() = 3",
            "link(6, 1, 1) = 3", "remove(0, 1) = 1", "remove(0, 2) = 1", "flush(2) = 1", "image(2, 0) = 0",
            "image(2, 1) = 65", "cached(1, 6) = 2");
        Calls.run("what memory has no more may be lost",
            "create(0, 1, true) = 6", "create(6, 2, false) = 7", "sync() = 3", "remove(6, 2) = 7",
            "remove(0, 1) = 6", "flush(2) = 0", "image(2, 0) = 0");
    }

    private static void dataBlocks() {
        Calls.run("a file's block goes as it is",
            "create(0, 1, false) = 1", "write(1, 0, 7) = 3", "write(1, 7, -8) = 3", "flush(3) = 0",
            "image(3, 0) = 7", "image(3, 7) = -8", "write(1, 0, 9) = 3", "image(3, 0) = 7", "flush(3) = 0",
            "image(3, 0) = 9");
        Calls.run("a block that no pointer names stays",
            "create(0, 1, false) = 1", "write(1, 0, 7) = 3", "sync() = 2", "write(1, 0, 9) = 3", "cut(1, 0) = 1",
            "flush(3) = 0", "image(3, 0) = 7", "cached(3, 0) = 9");
        Calls.run("a block of a directory that is not in the tree goes too",
            "create(0, 1, true) = 6", "create(6, 2, false) = 7", "sync() = 3", "remove(6, 2) = 7",
            "remove(0, 1) = 6", "cached(13, 6) = 1", "flush(14) = 0", "image(14, 0) = 0", "cached(13, 6) = 0");
    }
}
