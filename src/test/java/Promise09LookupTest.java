/** Promise 9: lookup. */
public final class Promise09LookupTest {
    public static void main(String[] args) {
        Calls.run("entries in memory",
            "lookup(0, 1) = NONE", "create(0, 1, true) = 6", "create(6, 1, false) = 7", "create(6, 999, false) = 8",
            "lookup(0, 1) = 6", "lookup(6, 1) = 7", "lookup(6, 999) = 8", "lookup(0, 999) = NONE",
            "remove(6, 1) = 7", "lookup(6, 1) = NONE", "crash() = true", "lookup(0, 1) = NONE");
        Calls.run("NONE",
            "create(0, 1, false) = 1", "lookup(0, 0) = NONE", "lookup(0, -1) = NONE", "lookup(0, 1000) = NONE",
            "lookup(0, MIN) = NONE", "lookup(0, MAX) = NONE", "lookup(1, 1) = NONE", "lookup(-1, 1) = NONE",
            "lookup(18, 1) = NONE", "lookup(MIN, 1) = NONE", "lookup(MAX, 1) = NONE", "lookup(5, 1) = NONE");
        Calls.run("a directory that is not in the tree",
            "create(0, 1, true) = 6", "create(6, 2, false) = 7", "sync() = 3", "remove(6, 2) = 7",
            "remove(0, 1) = 6", "flush(2) = 0", "crash() = true", "cached(13, 0) = 2", "cached(14, 0) = 71",
            "lookup(6, 2) = NONE", "create(6, 3, false) = NONE");
        Calls.on(Setups.fullRoot(), "the entry in the first and in the last cell",
            "lookup(0, 1) = 1", "lookup(0, 8) = 12", "lookup(0, 9) = NONE", "lookup(12, 1) = NONE");
        Calls.run("names 1 and 999, and those beside",
            "create(0, 1, false) = 1", "create(0, 999, false) = 2", "lookup(0, 0) = NONE", "lookup(0, 1) = 1",
            "lookup(0, 2) = NONE", "lookup(0, 998) = NONE", "lookup(0, 999) = 2", "lookup(0, 1000) = NONE");
        Calls.run("in memory, not on the disk",
            "create(0, 1, false) = 1", "sync() = 1", "remove(0, 1) = 1", "image(2, 0) = 33", "lookup(0, 1) = NONE",
            "create(0, 1, false) = 2", "lookup(0, 1) = 2");
        Due.end();
    }
}
