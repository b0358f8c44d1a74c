/** Promise 5: rename. */
public final class Promise05RenameTest {
    public static void main(String[] args) {
        moves();
        refusals();
        order();
        places();
        edges();
        Calls.run("d and e are of the tree: not those that a crash left without an entry",
            "create(0, 1, true) = 6", "create(6, 2, false) = 7", "create(0, 3, false) = 1", "sync() = 3",
            "remove(6, 2) = 7", "remove(0, 1) = 6", "flush(2) = 0", "crash() = true", "cached(13, 0) = 2",
            "cached(14, 0) = 71", "rename(6, 2, 0, 5) = NONE", "rename(0, 3, 6, 5) = NONE", "rename(6, 2, 6, 5) = NONE",
            "cached(14, 0) = 71", "cached(14, 1) = 0", "lookup(0, 3) = 1");
        Calls.run("EXISTS by what is in memory: a name that the disk alone has is not in use",
            "create(0, 1, false) = 1", "create(0, 2, false) = 2", "sync() = 1", "remove(0, 1) = 1", "image(2, 0) = 33",
            "rename(0, 2, 0, 1) = 2", "lookup(0, 1) = 2", "lookup(0, 2) = NONE");
        Calls.run("the new entry is YOUNG, and the old one stays on the disk until the new one is there",
            "create(0, 1, false) = 1", "sync() = 1", "rename(0, 1, 0, 2) = 1", "cached(1, 6) = 2", "flush(2) = 2",
            "flush(1) = 0", "flush(2) = 1", "image(2, 0) = 33", "image(2, 1) = 65", "flush(2) = 0",
            "image(2, 0) = 0", "cached(1, 6) = 1");
        Calls.on(Setups.fileWordsBelow(), "into and out of a FRESH block, whatever the disk has there",
            "rename(0, 1, 2, 5) = 1", "cached(3, 0) = 161", "cached(1, 6) = 2", "rename(2, 5, 0, 9) = 1",
            "cached(1, 6) = 2", "cached(3, 0) = 0", "lookup(0, 9) = 1");
        Due.end();
    }

    private static void moves() {
        Calls.run("what the disk never had",
            "create(0, 1, false) = 1", "rename(0, 1, 0, 2) = 1", "lookup(0, 1) = NONE", "lookup(0, 2) = 1",
            "cached(2, 0) = 0", "cached(2, 1) = 65", "cached(1, 6) = 1", "rename(0, 2, 0, 999) = 1",
            "cached(2, 0) = 31969", "cached(2, 1) = 0");
        Calls.run("what the disk has",
            "create(0, 1, false) = 1", "create(0, 2, true) = 6", "write(1, 5, 9) = 3", "sync() = 3",
            "rename(0, 1, 6, 1) = 1", "cached(1, 6) = 2", "cached(14, 0) = 33", "cached(2, 0) = 0",
            "read(1, 5) = 9", "flush(2) = 1", "flush(1) = 0", "image(1, 6) = 2", "flush(14) = 0", "flush(2) = 0",
            "cached(1, 6) = 1", "image(1, 6) = 2", "lookup(6, 1) = 1");
        Calls.run("a directory with what is in it",
            "create(0, 1, true) = 6", "create(0, 2, true) = 12", "create(6, 3, false) = 7",
            "rename(0, 1, 12, 4) = 6", "lookup(12, 4) = 6", "lookup(6, 3) = 7", "lookup(0, 1) = NONE",
            "cached(13, 1) = 1", "rename(0, 2, 6, 1) = BUSY", "rename(12, 4, 0, 1) = 6", "rename(0, 2, 6, 1) = 12");
    }

    private static void refusals() {
        Calls.run("NONE before all else",
            "create(0, 1, false) = 1", "create(0, 2, true) = 6", "rename(0, 3, 0, 4) = NONE",
            "rename(0, 0, 0, 4) = NONE", "rename(0, -1, 0, 4) = NONE", "rename(0, 1000, 0, 4) = NONE",
            "rename(0, 1, 0, 0) = NONE", "rename(0, 1, 0, 1000) = NONE", "rename(0, 1, 0, -1) = NONE",
            "rename(0, 1, 1, 4) = NONE", "rename(0, 1, 7, 4) = NONE", "rename(0, 1, -1, 4) = NONE",
            "rename(0, 1, 18, 4) = NONE", "rename(1, 1, 0, 4) = NONE", "rename(-1, 1, 0, 4) = NONE",
            "rename(18, 1, 0, 4) = NONE", "rename(MAX, 1, MIN, 4) = NONE", "rename(0, 3, 0, 1) = NONE",
            "rename(0, 2, 0, MIN) = NONE", "cached(2, 0) = 33", "cached(2, 1) = 70");
        Calls.run("EXISTS, also the old one itself",
            "create(0, 1, false) = 1", "create(0, 2, true) = 6", "create(6, 1, false) = 7",
            "rename(0, 1, 0, 1) = EXISTS", "rename(0, 1, 0, 2) = EXISTS", "rename(0, 1, 6, 1) = EXISTS",
            "rename(0, 2, 0, 2) = EXISTS", "cached(2, 0) = 33", "cached(1, 6) = 1");
        Calls.run("BUSY, below at any depth",
            "create(0, 1, true) = 6", "create(6, 2, true) = 12", "create(12, 3, true) = 1",
            "rename(0, 1, 6, 9) = BUSY", "rename(0, 1, 12, 9) = BUSY", "rename(0, 1, 1, 9) = BUSY",
            "rename(6, 2, 12, 9) = BUSY", "rename(6, 2, 1, 9) = BUSY", "rename(12, 3, 1, 9) = BUSY",
            "rename(12, 3, 6, 9) = 1", "rename(6, 2, 1, 9) = 12", "rename(0, 1, 12, 9) = BUSY",
            "rename(0, 1, 0, 9) = 6");
    }

    private static void order() {
        Calls.run("EXISTS before BUSY before FULL",
            "create(0, 1, true) = 6", "create(6, 1, false) = 7", "create(6, 2, false) = 8",
            "create(6, 3, false) = 9", "create(6, 4, false) = 10", "create(6, 5, false) = 11",
            "create(6, 6, false) = 12", "create(6, 7, false) = 13", "create(6, 8, false) = 14",
            "rename(0, 1, 6, 8) = EXISTS", "rename(0, 1, 6, 9) = BUSY", "rename(6, 1, 6, 8) = EXISTS",
            "rename(6, 1, 6, 9) = FULL", "image(12, 0) = 0", "create(0, 2, false) = 1", "rename(0, 2, 6, 9) = FULL",
            "rename(0, 2, 6, 1) = EXISTS", "image(0, 1) = 0", "rename(6, 1, 0, 9) = 7", "rename(0, 2, 6, 9) = 1");
    }

    private static void places() {
        Calls.run("a SYNC first when there is no place",
            "create(0, 1, true) = 6", "create(6, 1, false) = 7", "create(6, 2, false) = 8",
            "create(6, 3, false) = 9", "create(6, 4, false) = 10", "create(6, 5, false) = 11",
            "create(6, 6, false) = 12", "create(6, 7, false) = 13", "create(6, 8, false) = 14",
            "create(0, 2, false) = 1", "sync() = 3", "remove(6, 5) = 11", "image(14, 4) = 171",
            "rename(0, 2, 6, 9) = 1", "image(14, 4) = 0", "cached(14, 4) = 289", "image(2, 1) = 65",
            "cached(2, 1) = 0", "cached(1, 6) = 2");
        Calls.run("within one directory",
            "create(0, 1, false) = 1", "create(0, 2, false) = 2", "create(0, 3, false) = 3",
            "create(0, 4, false) = 4", "create(0, 5, false) = 5", "create(0, 6, false) = 6",
            "create(0, 7, false) = 7", "sync() = 2", "rename(0, 1, 0, 8) = 1", "cached(2, 7) = 257",
            "cached(2, 0) = 0", "image(2, 0) = 33", "rename(0, 2, 0, 9) = 2", "image(2, 0) = 0",
            "cached(2, 0) = 290", "cached(2, 1) = 0", "image(2, 1) = 66");
    }

    private static void edges() {
        Calls.run("newName 1 .. 999",
            "create(0, 5, false) = 1", "rename(0, 5, 0, 0) = NONE", "rename(0, 5, 0, 1) = 1",
            "rename(0, 1, 0, 999) = 1", "rename(0, 999, 0, 1000) = NONE", "lookup(0, 999) = 1");
        Calls.run("e is it, is below it, is beside it, is above it",
            "create(0, 1, true) = 6", "create(6, 1, true) = 12", "create(0, 2, true) = 1", "create(1, 1, true) = 7",
            "rename(0, 1, 6, 2) = BUSY", "rename(0, 1, 12, 2) = BUSY", "rename(6, 1, 12, 2) = BUSY",
            "rename(6, 1, 6, 2) = 12", "rename(6, 2, 0, 3) = 12", "rename(0, 1, 12, 1) = 6", "rename(12, 1, 7, 1) = 6",
            "rename(0, 2, 6, 1) = BUSY", "rename(0, 3, 6, 1) = 12", "lookup(6, 1) = 12", "lookup(7, 1) = 6");
        Calls.run("seven entries in e, which is d: the eighth is made before the old one is taken away",
            "create(0, 1, false) = 1", "link(0, 2, 1) = 2", "link(0, 3, 1) = 3", "link(0, 4, 1) = 4",
            "link(0, 5, 1) = 5", "link(0, 6, 1) = 6", "link(0, 7, 1) = 7", "rename(0, 7, 0, 8) = 1",
            "cached(2, 7) = 257", "cached(2, 6) = 0", "cached(1, 6) = 7", "link(0, 9, 1) = 8",
            "rename(0, 8, 0, 10) = FULL", "rename(0, 8, 0, 9) = EXISTS");
        Calls.on(Setups.fullRoot(), "from a full directory into an empty one",
            "rename(0, 1, 12, 1) = 1", "lookup(12, 1) = 1", "cached(26, 0) = 33", "cached(2, 0) = 0",
            "rename(12, 1, 0, 9) = 1", "cached(2, 0) = 289", "cached(26, 0) = 0");
        Calls.run("of two links the one with that name",
            "create(0, 1, false) = 1", "link(0, 2, 1) = 2", "rename(0, 2, 0, 3) = 1", "lookup(0, 1) = 1",
            "lookup(0, 2) = NONE", "lookup(0, 3) = 1", "cached(1, 6) = 2");
        Calls.on(Setups.everyInode(), "without a free inode or a SYNC",
            "rename(0, 3, 0, 8) = 1", "image(0, 1) = 0", "rename(0, 1, 12, 8) = 6", "image(0, 1) = 0");
    }
}
