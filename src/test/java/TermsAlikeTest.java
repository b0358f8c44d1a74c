/** ALIKE and SYNC: which difference counts, the passes and their order. */
public final class TermsAlikeTest {
    public static void main(String[] args) {
        mapsAndTables();
        dataBlocks();
        fresh();
        notCounted();
        passes();
        Due.end();
    }

    private static void mapsAndTables() {
        Calls.run("alike from the beginning", "sync() = 0", "sync() = 0", "flush(0) = 0", "sync() = 0");
        Calls.run("the mark of an inode alone is not the same",
            "create(0, 1, false) = 1", "flush(0) = 0", "remove(0, 1) = 1", "cached(0, 1) = 0", "image(0, 1) = 1",
            "sync() = 1", "image(0, 1) = 0", "sync() = 0");
        Calls.on(Setups.everyBlock(), "the mark of the last data block of each group alone",
            "sync() = 3", "cut(14, 2) = 1", "flush(25) = 0", "cached(24, 15) = 0", "image(24, 15) = 1", "sync() = 1",
            "image(24, 15) = 0", "cut(8, 2) = 1", "flush(13) = 0", "sync() = 1", "image(12, 15) = 0", "cut(3, 2) = 1",
            "flush(1) = 0", "sync() = 1", "image(0, 15) = 0", "sync() = 0");
        Calls.run("LINKS alone",
            "create(0, 1, false) = 1", "sync() = 1", "link(0, 2, 1) = 2", "flush(1) = 0", "remove(0, 2) = 1",
            "cached(1, 6) = 1", "image(1, 6) = 2", "sync() = 1", "image(1, 6) = 1", "sync() = 0");
        Calls.run("KIND alone",
            "create(0, 1, false) = 1", "flush(1) = 0", "remove(0, 1) = 1", "flush(0) = 0", "cached(1, 5) = 0",
            "image(1, 5) = 1", "sync() = 2", "image(1, 5) = 0", "image(0, 1) = 0");
        Calls.run("a pointer alone",
            "create(0, 1, false) = 1", "write(1, 23, 0) = 3", "flush(0) = 0", "flush(1) = 1", "flush(2) = 0",
            "flush(3) = 0", "cached(1, 9) = 3", "image(1, 9) = 0", "sync() = 1", "image(1, 9) = 3", "sync() = 0");
    }

    private static void dataBlocks() {
        Calls.run("the first and the last word of a file's block",
            "create(0, 1, false) = 1", "write(1, 0, 1) = 3", "sync() = 2", "write(1, 7, 2) = 3", "sync() = 1",
            "image(3, 7) = 2", "write(1, 0, 3) = 3", "sync() = 1", "image(3, 0) = 3", "write(1, 0, 3) = 3",
            "sync() = 0");
        Calls.on(Setups.everyBlock(), "the last data block of all",
            "sync() = 3", "write(14, 23, 5) = 35", "sync() = 1", "image(35, 7) = 5", "sync() = 0");
        Calls.run("an entry in a directory's block alone",
            "create(0, 1, false) = 1", "flush(0) = 0", "flush(1) = 0", "sync() = 1", "image(2, 0) = 33", "sync() = 0");
        Calls.run("a block that a pointer of an inode names which is not in the tree",
            "create(0, 1, false) = 1", "write(1, 0, 5) = 3", "sync() = 2", "link(0, 2, 1) = 2", "flush(1) = 0",
            "crash() = true", "write(1, 0, 9) = 3", "remove(0, 1) = 1", "flush(2) = 0", "cached(1, 6) = 1",
            "flush(1) = 0", "image(3, 0) = 5", "sync() = 1", "image(3, 0) = 9", "sync() = 0");
    }

    private static void fresh() {
        Calls.run("none of these is FRESH, though all cells are 0",
            "create(0, 1, false) = 1", "write(1, 0, 0) = 3", "sync() = 2", "image(1, 7) = 3", "create(0, 2, true) = 6",
            "sync() = 3", "image(13, 2) = 14", "sync() = 0");
    }

    private static void notCounted() {
        Calls.run("a data block that no pointer in memory names may differ",
            "create(0, 1, false) = 1", "write(1, 0, 7) = 3", "sync() = 2", "write(1, 0, 9) = 3", "cut(1, 0) = 1",
            "sync() = 2", "cached(3, 0) = 9", "image(3, 0) = 7", "sync() = 0");
        Calls.run("also a directory's that was freed, and one that is FRESH",
            "create(0, 1, true) = 6", "create(6, 1, false) = 7", "sync() = 3", "remove(6, 1) = 7", "remove(0, 1) = 6",
            "sync() = 3", "cached(14, 0) = 0", "image(14, 0) = 39", "sync() = 0", "create(0, 2, true) = 6",
            "remove(0, 2) = 6", "sync() = 0", "image(14, 0) = 39");
    }

    private static void passes() {
        Calls.run("the blocks 0, 1, .. 35 in this order: a map before its table, a table before its data",
            "create(0, 1, false) = 1", "sync() = 1", "write(1, 0, 1) = 3", "sync() = 2", "create(0, 2, true) = 6",
            "sync() = 3", "create(6, 1, false) = 7", "sync() = 1", "create(6, 2, true) = 12", "sync() = 3",
            "link(12, 1, 1) = 2", "sync() = 1", "link(0, 3, 7) = 2", "sync() = 2");
        Calls.run("what is given back after its map was written needs one more",
            "create(0, 1, false) = 1", "sync() = 1", "remove(0, 1) = 1", "sync() = 3", "create(0, 1, true) = 6",
            "sync() = 3", "remove(0, 1) = 6", "sync() = 2");
        Calls.run("three directories of one group in one another, one pass after another",
            "create(0, 1, true) = 6", "create(0, 2, true) = 12", "create(0, 3, true) = 1", "create(6, 1, true) = 7",
            "create(0, 4, true) = 13", "create(0, 5, true) = 2", "create(7, 1, true) = 8", "create(8, 1, false) = 9",
            "sync() = 3", "remove(8, 1) = 9", "remove(7, 1) = 8", "remove(6, 1) = 7", "remove(0, 1) = 6", "sync() = 4",
            "image(12, 0) = 0", "image(12, 3) = 0", "image(12, 6) = 0", "image(12, 8) = 0", "sync() = 0");
        Calls.run("what is made or moved in the meantime does not matter: a SYNC ends alike",
            "create(0, 1, true) = 6", "flush(2) = 1", "flush(13) = 1", "create(6, 1, true) = 12", "flush(14) = 1",
            "rename(6, 1, 0, 2) = 12", "rename(0, 1, 12, 1) = 6", "sync() = 3", "image(2, 0) = 0", "image(2, 1) = 76",
            "lookup(12, 1) = 6", "sync() = 0", "crash() = true", "lookup(12, 1) = 6");
    }
}
