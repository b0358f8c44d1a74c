/** Promise 8: cut. */
public final class Promise08CutTest {
    public static void main(String[] args) {
        Calls.run("what the disk never had is freed at once",
            "create(0, 1, false) = 1", "write(1, 0, 1) = 3", "write(1, 8, 2) = 4", "write(1, 16, 3) = 5",
            "cut(1, 3) = 0", "cut(1, 2) = 1", "cached(0, 9) = 0", "cached(1, 9) = 0", "cached(0, 8) = 1",
            "cut(1, 2) = 0", "cut(1, 1) = 1", "cut(1, 0) = 1", "cut(1, 0) = 0", "cached(0, 7) = 0",
            "cached(1, 7) = 0", "cached(5, 0) = 3", "lookup(0, 1) = 1");
        Calls.run("pointers between that are 0",
            "create(0, 1, false) = 1", "write(1, 0, 1) = 3", "write(1, 16, 3) = 4", "cut(1, 0) = 2",
            "write(1, 8, 5) = 3", "cut(1, 0) = 1");
        Calls.run("NONE",
            "create(0, 1, false) = 1", "write(1, 0, 1) = 3", "cut(1, 4) = NONE", "cut(1, -1) = NONE",
            "cut(1, MAX) = NONE", "cut(1, MIN) = NONE", "cut(0, 0) = NONE", "cut(2, 0) = NONE", "cut(-1, 0) = NONE",
            "cut(18, 0) = NONE", "cut(MIN, 0) = NONE", "read(1, 0) = 1", "create(0, 2, true) = 6", "cut(6, 0) = NONE",
            "cached(13, 2) = 14");
        Calls.run("a block that the disk names is freed when it does no more",
            "create(0, 1, false) = 1", "write(1, 0, 1) = 3", "write(1, 8, 2) = 4", "sync() = 2", "cut(1, 1) = 1",
            "cached(1, 8) = 0", "cached(0, 8) = 1", "image(1, 8) = 4", "write(1, 8, 9) = 5", "flush(0) = 0",
            "cached(0, 8) = 1", "flush(1) = 1", "image(1, 8) = 4", "cached(0, 8) = 1", "flush(5) = 0",
            "flush(1) = 0", "image(1, 8) = 5", "cached(0, 8) = 0", "image(0, 8) = 1", "image(4, 0) = 2");
        Calls.run("n 0 .. 3, and those beside",
            "create(0, 1, false) = 1", "write(1, 0, 1) = 3", "write(1, 8, 2) = 4", "write(1, 16, 3) = 5",
            "cut(1, -1) = NONE", "cut(1, 4) = NONE", "cut(1, 3) = 0", "cached(1, 9) = 5", "cut(1, 2) = 1",
            "cached(1, 9) = 0", "cached(1, 8) = 4", "cut(1, 1) = 1", "cached(1, 8) = 0", "cached(1, 7) = 3",
            "cut(1, 0) = 1", "cached(1, 7) = 0", "cut(1, 0) = 0");
        Calls.run("all three at once, and a file without blocks",
            "create(0, 1, false) = 1", "cut(1, 0) = 0", "write(1, 0, 1) = 3", "write(1, 8, 2) = 4",
            "write(1, 16, 3) = 5", "cut(1, 0) = 3", "cut(1, 0) = 0", "cached(0, 7) = 0", "cached(0, 9) = 0");
        Calls.run("of the last inode and the last block",
            "create(0, 1, true) = 6", "create(0, 2, true) = 12", "create(12, 1, false) = 13", "cut(17, 0) = NONE",
            "cut(18, 0) = NONE", "cut(13, 0) = 0");
        Calls.on(Setups.everyBlock(), "block 35", "cut(14, 2) = 1", "cached(24, 15) = 0", "cut(14, 0) = 2",
            "cached(24, 13) = 0");
        Calls.run("i is of the tree: not a file that has a KIND and no entry any more",
            "create(0, 1, false) = 1", "write(1, 0, 5) = 3", "sync() = 2", "remove(0, 1) = 1", "cached(1, 5) = 1",
            "cached(1, 7) = 3", "cut(1, 0) = NONE", "cut(1, 3) = NONE", "cached(1, 7) = 3");
        Calls.run("a block that is freed and taken again is dropped no more",
            "create(0, 1, false) = 1", "write(1, 0, 1) = 3", "cut(1, 0) = 1", "cached(0, 7) = 0", "write(1, 0, 2) = 3",
            "flush(0) = 0", "cached(0, 7) = 1", "image(0, 7) = 1", "sync() = 2", "image(3, 0) = 2");
        Calls.run("words of a file are no entries: no LINKS fall for them",
            "create(0, 1, false) = 1", "create(0, 2, false) = 2", "write(1, 0, 34) = 3", "sync() = 2", "cut(1, 0) = 1",
            "flush(1) = 0", "cached(0, 7) = 0", "image(3, 0) = 34", "cached(1, 11) = 1", "cached(1, 10) = 1");
        Due.end();
    }
}
