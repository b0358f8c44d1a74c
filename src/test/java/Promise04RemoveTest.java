/** Promise 4: remove, and what is given back after it. */
public final class Promise04RemoveTest {
    public static void main(String[] args) {
        refusals();
        emptyAndFull();
        atOnce();
        later();
        directories();
        severalOfOneName();
        Calls.run("d is of the tree: not a directory that a crash left without an entry",
            "create(0, 1, true) = 6", "create(6, 2, false) = 7", "sync() = 3", "remove(6, 2) = 7",
            "remove(0, 1) = 6", "flush(2) = 0", "crash() = true", "cached(13, 0) = 2", "cached(14, 0) = 71",
            "remove(6, 2) = NONE", "cached(14, 0) = 71", "cached(13, 6) = 1");
        Calls.on(Setups.fileWordsBelow(), "LINKS fall at once in a FRESH block, whatever the disk has there",
            "create(2, 5, false) = 3", "cached(1, 16) = 1", "remove(2, 5) = 3", "cached(1, 16) = 0",
            "cached(1, 15) = 0", "cached(0, 3) = 0", "image(3, 0) = 99");
        Calls.on(Setups.fileWordsBelow(), "no LINKS fall for what the disk has in a FRESH block that is freed",
            "create(0, 7, false) = 3", "remove(0, 6) = 2", "cached(0, 7) = 0", "cached(1, 16) = 1",
            "cached(1, 15) = 1", "cached(1, 6) = 1", "lookup(0, 7) = 3");
        Due.end();
    }

    private static void refusals() {
        Calls.run("NONE",
            "remove(0, 1) = NONE", "remove(0, 0) = NONE", "remove(0, -1) = NONE", "remove(0, 1000) = NONE",
            "remove(0, MIN) = NONE", "create(0, 1, false) = 1", "remove(1, 1) = NONE", "remove(-1, 1) = NONE",
            "remove(18, 1) = NONE", "remove(6, 1) = NONE", "remove(MAX, 1) = NONE", "remove(0, 2) = NONE",
            "remove(0, 1) = 1", "remove(0, 1) = NONE");
        Calls.run("BUSY",
            "create(0, 1, true) = 6", "create(6, 2, false) = 7", "remove(0, 1) = BUSY", "lookup(0, 1) = 6",
            "remove(0, 2) = NONE", "remove(6, 2) = 7", "remove(0, 1) = 6", "lookup(0, 1) = NONE",
            "remove(6, 2) = NONE");
    }

    private static void emptyAndFull() {
        Calls.run("an entry in memory: none, one, and one that the disk alone has",
            "create(0, 1, true) = 6", "remove(0, 1) = 6", "create(0, 1, true) = 6", "create(6, 1, false) = 7",
            "remove(0, 1) = BUSY", "sync() = 3", "remove(0, 1) = BUSY", "remove(6, 1) = 7", "image(14, 0) = 39",
            "remove(0, 1) = 6");
        Calls.on(Setups.fullRoot(), "all eight entries, and then none",
            "remove(0, 8) = 12", "remove(0, 7) = 7", "remove(0, 6) = 6", "remove(0, 5) = 5", "remove(0, 4) = 4",
            "remove(0, 3) = 3", "remove(0, 2) = 2", "remove(0, 1) = 1", "remove(0, 1) = NONE", "sync() = 0");
        Calls.run("names 1 and 999, and those beside",
            "create(0, 1, false) = 1", "create(0, 999, false) = 2", "remove(0, 0) = NONE", "remove(0, 2) = NONE",
            "remove(0, 998) = NONE", "remove(0, 1000) = NONE", "remove(0, 999) = 2", "remove(0, 1) = 1");
    }

    private static void atOnce() {
        Calls.run("what the disk never had goes at once",
            "create(0, 1, false) = 1", "write(1, 0, 5) = 3", "remove(0, 1) = 1", "cached(2, 0) = 0",
            "cached(1, 5) = 0", "cached(1, 6) = 0", "cached(1, 7) = 0", "cached(0, 1) = 0", "cached(0, 7) = 0",
            "cached(3, 0) = 5", "sync() = 0", "create(0, 1, false) = 1", "read(1, 0) = 0", "write(1, 1, 6) = 3",
            "cached(3, 0) = 0");
        Calls.run("the mark waits for KIND on the disk",
            "create(0, 1, false) = 1", "flush(1) = 0", "remove(0, 1) = 1", "cached(1, 5) = 0", "cached(0, 1) = 1",
            "create(0, 2, false) = 2", "flush(1) = 0", "cached(0, 1) = 0", "create(0, 3, false) = 1");
        Calls.run("a directory and its block",
            "create(0, 1, true) = 6", "remove(0, 1) = 6", "cached(12, 0) = 0", "cached(12, 6) = 0",
            "cached(13, 0) = 0", "cached(13, 2) = 0", "create(0, 2, true) = 6");
    }

    private static void later() {
        Calls.run("LINKS wait for the cell, the mark for the table, the block for its pointer",
            "create(0, 1, false) = 1", "write(1, 0, 5) = 3", "sync() = 2", "remove(0, 1) = 1", "cached(2, 0) = 0",
            "image(2, 0) = 33", "cached(1, 6) = 1", "cached(1, 5) = 1", "read(1, 0) = 0", "flush(2) = 0",
            "cached(1, 6) = 0", "cached(1, 5) = 0", "cached(1, 7) = 0", "image(1, 7) = 3", "cached(0, 1) = 1",
            "cached(0, 7) = 1", "flush(0) = 0", "cached(0, 7) = 1", "flush(1) = 0", "cached(0, 1) = 0",
            "cached(0, 7) = 0", "image(0, 7) = 1", "image(3, 0) = 5");
        Calls.run("one of two entries",
            "create(0, 1, false) = 1", "link(0, 2, 1) = 2", "sync() = 1", "remove(0, 1) = 1", "cached(1, 6) = 2",
            "flush(2) = 0", "cached(1, 6) = 1", "cached(1, 5) = 1", "lookup(0, 2) = 1");
        Calls.run("a place that is taken again after the cell is 0 on the disk",
            "create(0, 1, false) = 1", "sync() = 1", "remove(0, 1) = 1", "flush(2) = 0", "create(0, 1, false) = 2",
            "cached(2, 0) = 34", "remove(0, 1) = 2", "cached(1, 11) = 0", "create(0, 5, false) = 2");
    }

    private static void directories() {
        Calls.run("a directory whose entries only the disk has is empty",
            "create(0, 1, true) = 6", "create(6, 2, false) = 7", "sync() = 3", "remove(6, 2) = 7",
            "image(14, 0) = 71", "remove(0, 1) = 6");
        Calls.run("LINKS fall for the entries of a freed directory",
            "create(0, 1, true) = 6", "create(6, 1, false) = 7", "link(0, 2, 7) = 2", "sync() = 3",
            "remove(6, 1) = 7", "cached(13, 6) = 2", "remove(0, 1) = 6", "cached(13, 0) = 2", "flush(2) = 0",
            "cached(13, 0) = 0", "cached(13, 2) = 0", "cached(13, 6) = 2", "flush(14) = 0", "image(14, 0) = 39",
            "cached(13, 6) = 2", "cached(12, 6) = 1", "flush(13) = 0", "cached(13, 6) = 1", "cached(12, 6) = 0",
            "cached(12, 0) = 0", "image(14, 0) = 39", "image(13, 6) = 2", "lookup(0, 2) = 7");
        Calls.run("one step makes another possible",
            "create(0, 1, true) = 6", "create(6, 2, true) = 12", "create(12, 3, false) = 13",
            "write(13, 0, 4) = 27", "sync() = 3", "remove(12, 3) = 13", "remove(6, 2) = 12", "remove(0, 1) = 6",
            "flush(2) = 0", "cached(13, 0) = 0", "cached(25, 0) = 2", "flush(13) = 0", "cached(12, 6) = 0",
            "cached(25, 0) = 0", "cached(24, 6) = 1", "cached(25, 5) = 1", "flush(25) = 0", "cached(24, 6) = 0",
            "cached(25, 5) = 0", "cached(24, 7) = 1", "cached(24, 1) = 1", "flush(25) = 0", "cached(24, 7) = 0",
            "cached(24, 1) = 0");
    }

    private static void severalOfOneName() {
        Calls.run("the least cell with the name",
            "create(0, 1, false) = 1", "sync() = 1", "rename(0, 1, 0, 2) = 1", "create(0, 1, false) = 2",
            "flush(0) = 0", "flush(1) = 0", "flush(2) = 1", "crash() = true", "cached(2, 0) = 33",
            "cached(2, 1) = 65", "cached(2, 2) = 34", "lookup(0, 1) = 1", "remove(0, 1) = 1", "lookup(0, 1) = 2",
            "create(0, 1, false) = EXISTS", "remove(0, 1) = 2", "lookup(0, 1) = NONE", "lookup(0, 2) = 1",
            "create(0, 1, false) = 3");
    }
}
