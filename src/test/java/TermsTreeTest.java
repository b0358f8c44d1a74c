/** The TREE: the root and every inode that is named by an entry of a directory of the tree. */
public final class TermsTreeTest {
    public static void main(String[] args) {
        rootAlone();
        deepest();
        notInIt();
        wordsAreNoEntries();
        Due.end();
    }

    private static void rootAlone() {
        Calls.run("the root alone",
            "lookup(0, 1) = NONE", "lookup(1, 1) = NONE", "create(1, 1, false) = NONE", "create(6, 1, true) = NONE",
            "create(17, 1, true) = NONE", "write(0, 0, 1) = NONE", "write(1, 0, 1) = NONE", "read(0, 0) = 0",
            "cut(0, 0) = NONE", "link(0, 1, 0) = NONE", "link(0, 1, 1) = NONE", "remove(0, 1) = NONE",
            "rename(0, 1, 0, 2) = NONE", "sync() = 0", "create(0, 1, true) = 6");
    }

    /** Each directory lies in the one before: as deep as 18 inodes allow. */
    private static OrderedVolume chain() {
        OrderedVolume volume = new OrderedVolume();
        int[] inodes = {0, 6, 12, 1, 7, 13, 2, 8, 14, 3, 9, 15, 4, 10, 16, 5, 11, 17};
        for (int n = 1; n < 18; n++) {
            Calls.on(volume, "chain", "create(" + inodes[n - 1] + ", 5, true) = " + inodes[n]);
        }
        return volume;
    }

    private static void deepest() {
        Calls.on(chain(), "a chain of all 18 inodes",
            "lookup(17, 5) = NONE", "lookup(11, 5) = 17", "create(17, 5, false) = FULL", "sync() = 0", "defects(0) = 0",
            "defects(1) = 0", "defects(2) = 0", "defects(3) = 0", "defects(4) = 0", "defects(5) = 0",
            "crash() = true", "lookup(11, 5) = 17", "rename(0, 5, 17, 1) = BUSY", "rename(0, 5, 6, 1) = BUSY",
            "rename(6, 5, 17, 1) = BUSY", "rename(11, 5, 17, 1) = BUSY", "rename(11, 5, 11, 1) = 17",
            "remove(5, 5) = BUSY", "remove(11, 1) = 17", "remove(5, 5) = 11", "remove(0, 5) = BUSY",
            "lookup(17, 1) = NONE", "create(17, 1, false) = NONE", "create(11, 1, false) = NONE");
        Calls.on(chain(), "the lowest of a chain moves up, and all is below it",
            "sync() = 3", "rename(11, 5, 0, 6) = 17", "rename(0, 5, 17, 1) = 6", "rename(0, 6, 11, 1) = BUSY",
            "rename(0, 6, 6, 1) = BUSY", "lookup(17, 1) = 6", "crash() = false");
    }

    private static void notInIt() {
        Calls.run("what was removed, though LINKS have not fallen",
            "create(0, 1, false) = 1", "write(1, 0, 5) = 3", "create(0, 2, true) = 6", "create(6, 1, false) = 7",
            "sync() = 3", "remove(0, 1) = 1", "cached(1, 5) = 1", "cached(1, 6) = 1", "read(1, 0) = 0",
            "write(1, 0, 6) = NONE", "cut(1, 0) = NONE", "link(0, 3, 1) = NONE", "remove(6, 1) = 7",
            "remove(0, 2) = 6", "cached(13, 0) = 2", "lookup(6, 1) = NONE", "create(6, 3, false) = NONE",
            "rename(0, 1, 6, 1) = NONE", "rename(6, 1, 0, 1) = NONE", "remove(6, 1) = NONE");
        Calls.run("named only by a directory that is not in the tree",
            "create(0, 1, true) = 6", "create(6, 2, true) = 12", "create(12, 3, false) = 13", "write(13, 0, 9) = 27",
            "sync() = 3", "remove(12, 3) = 13", "remove(6, 2) = 12", "remove(0, 1) = 6", "flush(2) = 0",
            "crash() = true", "cached(14, 0) = 76", "cached(26, 0) = 109", "cached(25, 0) = 2", "lookup(6, 2) = NONE",
            "lookup(12, 3) = NONE", "read(13, 0) = 0", "write(13, 0, 1) = NONE", "cut(13, 0) = NONE",
            "link(0, 1, 13) = NONE", "create(12, 1, false) = NONE", "defects(3) = 3", "defects(2) = 3");
        Calls.run("the tree of memory, where nothing else is said",
            "create(0, 1, true) = 6", "image(2, 0) = 0", "lookup(6, 1) = NONE", "create(6, 1, false) = 7",
            "lookup(6, 1) = 7", "write(7, 0, 1) = 15", "sync() = 3", "rename(6, 1, 0, 2) = 7", "read(7, 0) = 1",
            "remove(0, 1) = 6", "image(2, 0) = 38", "create(6, 1, false) = NONE");
    }

    private static void wordsAreNoEntries() {
        Calls.run("the words of a file are no entries, and a file is no directory",
            "create(0, 1, false) = 1", "write(1, 0, 34) = 3", "write(1, 1, 38) = 3", "lookup(1, 1) = NONE",
            "create(1, 2, false) = NONE", "write(2, 0, 5) = NONE", "sync() = 2", "defects(0) = 0", "defects(3) = 0",
            "defects(5) = 0", "remove(0, 1) = 1", "lookup(0, 1) = NONE", "sync() = 3");
        Calls.run("a file with words can be removed: it is not BUSY",
            "create(0, 1, false) = 1", "write(1, 0, 33) = 3", "rename(0, 1, 0, 2) = 1", "remove(0, 2) = 1");
        Calls.run("a directory's block is not a file's",
            "create(0, 1, true) = 6", "create(6, 1, false) = 7", "read(6, 0) = 0", "write(6, 0, 1) = NONE",
            "cut(6, 0) = NONE", "cached(14, 0) = 39", "link(0, 2, 6) = NONE");
    }
}
