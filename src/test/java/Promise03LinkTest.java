/** Promise 3: link. */
public final class Promise03LinkTest {
    public static void main(String[] args) {
        Calls.run("LINKS after it",
            "create(0, 1, false) = 1", "link(0, 2, 1) = 2", "cached(2, 1) = 65", "create(0, 3, true) = 6",
            "link(6, 1, 1) = 3", "lookup(6, 1) = 1", "lookup(0, 2) = 1", "cached(1, 6) = 3", "image(1, 6) = 0",
            "write(1, 0, 8) = 3", "remove(0, 1) = 1", "read(1, 0) = 8", "cached(1, 6) = 2", "remove(0, 2) = 1",
            "remove(6, 1) = 1", "read(1, 0) = 0", "link(0, 1, 1) = NONE");
        Calls.run("NONE before all else",
            "create(0, 1, false) = 1", "create(0, 2, true) = 6", "link(0, 0, 1) = NONE", "link(0, 1000, 1) = NONE",
            "link(0, -5, 1) = NONE", "link(0, MAX, 1) = NONE", "link(1, 3, 1) = NONE", "link(-1, 3, 1) = NONE",
            "link(18, 3, 1) = NONE", "link(7, 3, 1) = NONE", "link(0, 3, 6) = NONE", "link(0, 3, 0) = NONE",
            "link(0, 3, 2) = NONE", "link(0, 3, -1) = NONE", "link(0, 3, 18) = NONE", "link(0, 3, MAX) = NONE",
            "link(0, 1, 2) = NONE", "link(0, 1, 1) = EXISTS", "link(0, 2, 1) = EXISTS", "link(0, 999, 1) = 2",
            "link(6, 1, 1) = 3");
        Calls.run("EXISTS before FULL",
            "create(0, 1, false) = 1", "link(0, 2, 1) = 2", "link(0, 3, 1) = 3", "link(0, 4, 1) = 4",
            "link(0, 5, 1) = 5", "link(0, 6, 1) = 6", "link(0, 7, 1) = 7", "link(0, 8, 1) = 8",
            "link(0, 8, 1) = EXISTS", "link(0, 9, 1) = FULL", "cached(1, 6) = 8", "image(0, 1) = 0", "sync() = 1");
        Calls.run("a SYNC first when there is no place, in which LINKS fall",
            "create(0, 1, false) = 1", "link(0, 2, 1) = 2", "link(0, 3, 1) = 3", "link(0, 4, 1) = 4",
            "link(0, 5, 1) = 5", "link(0, 6, 1) = 6", "link(0, 7, 1) = 7", "link(0, 8, 1) = 8", "sync() = 1",
            "remove(0, 3) = 1", "remove(0, 6) = 1", "cached(1, 6) = 8", "link(0, 9, 1) = 7", "cached(2, 2) = 289",
            "cached(2, 5) = 0", "image(2, 5) = 0", "image(1, 6) = 6", "link(0, 10, 1) = 8");
        Calls.run("no SYNC when there is a place",
            "create(0, 1, false) = 1", "sync() = 1", "link(0, 2, 1) = 2", "remove(0, 1) = 1", "cached(1, 6) = 2",
            "link(0, 3, 1) = 3", "cached(2, 2) = 97", "image(2, 0) = 33");
        Calls.run("a name 1 .. 999",
            "create(0, 5, false) = 1", "link(0, 0, 1) = NONE", "link(0, 1, 1) = 2", "link(0, 999, 1) = 3",
            "link(0, 1000, 1) = NONE", "cached(2, 1) = 33", "cached(2, 2) = 31969");
        Calls.run("seven entries and eight, and more LINKS than one directory has entries",
            "create(0, 1, false) = 1", "link(0, 2, 1) = 2", "link(0, 3, 1) = 3", "link(0, 4, 1) = 4",
            "link(0, 5, 1) = 5", "link(0, 6, 1) = 6", "create(0, 7, true) = 6", "link(0, 8, 1) = 7",
            "link(0, 9, 1) = FULL", "link(6, 9, 1) = 8", "link(6, 10, 1) = 9", "sync() = 3", "image(1, 6) = 9");
        Calls.on(Setups.everyInode(), "without a free inode or a SYNC",
            "link(0, 8, 17) = 2", "image(0, 1) = 0", "link(12, 8, 1) = 2", "cached(26, 5) = 257", "image(0, 1) = 0");
        Calls.on(Setups.everyBlock(), "without a free block or a SYNC", "link(0, 8, 14) = 2", "image(0, 1) = 0");
        Calls.run("EXISTS by what is in memory: a name that the disk alone has is not in use",
            "create(0, 1, false) = 1", "create(0, 2, false) = 2", "sync() = 1", "remove(0, 1) = 1", "image(2, 0) = 33",
            "link(0, 1, 2) = 2", "cached(2, 2) = 34", "lookup(0, 1) = 2", "link(0, 1, 2) = EXISTS");
        Calls.run("d and i are of the tree: not those that have a KIND and no entry any more",
            "create(0, 1, true) = 6", "create(0, 2, false) = 1", "create(0, 3, false) = 2", "sync() = 3",
            "remove(0, 1) = 6", "remove(0, 2) = 1", "cached(13, 0) = 2", "cached(1, 5) = 1", "link(6, 1, 2) = NONE",
            "link(0, 4, 1) = NONE", "link(0, 4, 2) = 2");
        Calls.run("the entry is YOUNG until the table of its inode is written back",
            "create(0, 1, false) = 1", "sync() = 1", "link(0, 2, 1) = 2", "flush(2) = 1", "image(2, 1) = 0",
            "flush(1) = 0", "image(1, 6) = 2", "flush(2) = 0", "image(2, 1) = 65");
        Calls.on(Setups.fileWordsBelow(), "cells of a FRESH block are places, whatever the disk has there",
            "link(2, 5, 1) = 2", "cached(3, 0) = 161", "link(2, 3, 1) = 3", "cached(3, 1) = 97", "image(3, 0) = 99");
        Due.end();
    }
}
