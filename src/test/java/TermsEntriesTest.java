/** ENTRIES: several of one name, the PLACE, YOUNG, and LINKS that fall at once or later. */
public final class TermsEntriesTest {
    public static void main(String[] args) {
        oneNameTwice();
        place();
        noPlace();
        young();
        raised();
        fallsAtOnce();
        fallsLater();
        root();
        Due.end();
    }

    private static void oneNameTwice() {
        Calls.on(Setups.oneNameTwice(), "the entry with a name is the one in the least cell: lookup",
            "lookup(0, 1) = 1", "lookup(0, 2) = 1");
        Calls.on(Setups.oneNameTwice(), "to take it away leaves the others: remove",
            "remove(0, 1) = 1", "cached(2, 0) = 0", "cached(2, 2) = 34", "lookup(0, 1) = 2", "remove(0, 1) = 2",
            "cached(2, 2) = 0", "lookup(0, 1) = NONE", "remove(0, 1) = NONE", "lookup(0, 2) = 1");
        Calls.on(Setups.oneNameTwice(), "rename takes the least one, then the other",
            "rename(0, 1, 0, 5) = 1", "cached(2, 0) = 0", "cached(2, 3) = 161", "cached(2, 2) = 34",
            "rename(0, 1, 0, 6) = 2", "cached(2, 2) = 0", "cached(2, 4) = 194", "rename(0, 1, 0, 7) = NONE");
        Calls.on(Setups.oneNameTwice(), "EXISTS as long as one of them is there",
            "create(0, 1, false) = EXISTS", "link(0, 1, 1) = EXISTS", "rename(0, 2, 0, 1) = EXISTS", "remove(0, 1) = 1",
            "create(0, 1, true) = EXISTS", "link(0, 1, 2) = EXISTS", "rename(0, 2, 0, 1) = EXISTS", "remove(0, 1) = 2",
            "rename(0, 2, 0, 1) = 1");
        Calls.on(Setups.oneNameTwice(), "both count among the eight entries",
            "create(0, 3, false) = 3", "create(0, 4, false) = 4", "create(0, 5, false) = 5", "create(0, 6, false) = 6",
            "create(0, 7, false) = 7", "create(0, 8, false) = FULL", "remove(0, 1) = 1", "remove(0, 1) = 2",
            "create(0, 8, false) = 2");
        Calls.on(Setups.oneNameTwice(), "reclaim leaves both",
            "reclaim() = 0", "cached(1, 6) = 2", "cached(1, 11) = 1", "lookup(0, 1) = 1", "remove(0, 1) = 1",
            "lookup(0, 1) = 2");
        Calls.run("two entries of one name for one inode",
            "create(0, 1, false) = 1", "sync() = 1", "rename(0, 1, 0, 2) = 1", "rename(0, 2, 0, 1) = 1", "flush(1) = 0",
            "flush(2) = 1", "crash() = true", "cached(2, 0) = 33", "cached(2, 1) = 0", "cached(2, 2) = 33",
            "cached(1, 6) = 2", "remove(0, 1) = 1", "lookup(0, 1) = 1", "remove(0, 1) = 1", "lookup(0, 1) = NONE",
            "sync() = 3", "cached(0, 1) = 0");
    }

    private static void place() {
        Calls.on(Setups.fullRoot(), "The PLACE: the cells from 0 to 7, the least first",
            "cached(2, 0) = 33", "cached(2, 1) = 66", "cached(2, 2) = 99", "cached(2, 3) = 132", "cached(2, 4) = 165",
            "cached(2, 5) = 198", "cached(2, 6) = 231", "cached(2, 7) = 268");
        Calls.on(Setups.fullRoot(), "the least cell that is 0",
            "remove(0, 7) = 7", "remove(0, 2) = 2", "remove(0, 5) = 5", "create(0, 9, false) = 2", "cached(2, 1) = 290",
            "create(0, 10, false) = 5", "cached(2, 4) = 325", "create(0, 11, false) = 7", "cached(2, 6) = 359",
            "create(0, 12, false) = FULL");
        Calls.on(Setups.fullRoot(), "the last cell and the first",
            "remove(0, 8) = 12", "create(0, 9, false) = 8", "cached(2, 7) = 296", "remove(0, 1) = 1",
            "create(0, 9, false) = EXISTS", "create(0, 10, false) = 1", "cached(2, 0) = 321");
        Calls.run("0 in memory is not enough",
            "create(0, 1, false) = 1", "create(0, 2, false) = 2", "sync() = 1", "remove(0, 1) = 1", "cached(2, 0) = 0",
            "image(2, 0) = 33", "link(0, 3, 2) = 2", "cached(2, 0) = 0", "cached(2, 2) = 98", "rename(0, 2, 0, 4) = 2",
            "cached(2, 3) = 130", "create(0, 5, false) = 3", "cached(2, 4) = 163");
        Calls.run("0 on the disk is not enough",
            "create(0, 1, false) = 1", "flush(2) = 1", "image(2, 0) = 0", "cached(2, 0) = 33", "create(0, 2, false) = 2",
            "cached(2, 0) = 33", "cached(2, 1) = 66");
        Calls.run("0 in both again",
            "create(0, 1, false) = 1", "create(0, 2, false) = 2", "sync() = 1", "remove(0, 1) = 1", "flush(2) = 0",
            "image(2, 0) = 0", "create(0, 3, false) = 3", "cached(2, 0) = 99");
    }

    private static void noPlace() {
        Calls.on(Setups.noPlace(), "none, with seven entries: a SYNC makes one for create",
            "image(2, 2) = 99", "create(0, 9, false) = 3", "image(2, 2) = 0", "cached(2, 2) = 291", "image(3, 0) = 4",
            "cached(1, 15) = 1", "image(1, 15) = 0");
        Calls.on(Setups.noPlace(), "for link",
            "link(0, 9, 1) = 2", "image(2, 2) = 0", "cached(2, 2) = 289", "image(3, 0) = 4", "cached(0, 3) = 0");
        Calls.on(Setups.noPlace(), "for rename within the directory",
            "rename(0, 1, 0, 9) = 1", "image(2, 2) = 0", "cached(2, 2) = 289", "cached(2, 0) = 0", "image(2, 0) = 33",
            "image(3, 0) = 4");
        Calls.on(Setups.noPlace(), "for rename from another",
            "create(12, 1, false) = 13", "rename(12, 1, 0, 9) = 13", "cached(2, 2) = 301", "image(2, 2) = 0",
            "image(3, 0) = 4", "image(26, 0) = 45", "cached(26, 0) = 0");
        Calls.on(Setups.noPlace(), "no SYNC when there is a place: seven entries, and the eighth is gone on the disk",
            "flush(2) = 0", "image(2, 2) = 0", "image(3, 0) = 0", "create(0, 9, false) = 8", "cached(2, 2) = 296",
            "image(3, 0) = 0");
        Calls.on(Setups.noPlace(), "one entry and seven that the disk has: no place",
            "remove(0, 1) = 1", "remove(0, 2) = 2", "remove(0, 4) = 4", "remove(0, 5) = 5", "remove(0, 6) = 6",
            "remove(0, 7) = 7", "cached(2, 0) = 0", "image(2, 0) = 33", "create(0, 9, false) = 1", "cached(2, 0) = 289",
            "image(2, 0) = 0", "image(2, 6) = 0", "image(2, 7) = 268");
        Calls.on(Setups.noPlace(), "no entry in memory, eight on the disk",
            "remove(0, 1) = 1", "remove(0, 2) = 2", "remove(0, 4) = 4", "remove(0, 5) = 5", "remove(0, 6) = 6",
            "remove(0, 7) = 7", "remove(0, 8) = 12", "create(0, 9, true) = 6", "cached(2, 0) = 294", "image(2, 7) = 0",
            "cached(24, 0) = 0", "cached(24, 6) = 0");
    }

    private static void young() {
        Calls.run("YOUNG until the table of its inode is written back: not the directory's table, nor a map",
            "create(0, 1, true) = 6", "create(0, 2, true) = 12", "create(0, 3, false) = 1", "sync() = 3",
            "link(12, 1, 1) = 2", "flush(25) = 0", "flush(26) = 1", "flush(13) = 0", "flush(26) = 1", "flush(0) = 0",
            "flush(24) = 0", "flush(2) = 0", "flush(26) = 1", "image(26, 0) = 0", "flush(1) = 0", "flush(26) = 0",
            "image(26, 0) = 33");
        Calls.run("the table of group 1",
            "create(0, 1, true) = 6", "create(6, 1, false) = 7", "sync() = 3", "link(0, 2, 7) = 2", "flush(1) = 0",
            "flush(25) = 0", "flush(2) = 1", "flush(13) = 0", "flush(2) = 0", "image(2, 1) = 71");
        Calls.run("the table of group 2",
            "create(0, 1, true) = 6", "create(0, 2, true) = 12", "create(12, 1, false) = 13", "sync() = 3",
            "link(0, 3, 13) = 2", "flush(1) = 0", "flush(13) = 0", "flush(2) = 1", "flush(25) = 0", "flush(2) = 0",
            "image(2, 2) = 109");
        Calls.run("an entry that a rename made is YOUNG too",
            "create(0, 1, false) = 1", "create(0, 2, true) = 6", "sync() = 3", "rename(0, 1, 6, 1) = 1", "flush(14) = 1",
            "flush(13) = 0", "flush(14) = 1", "flush(1) = 0", "flush(14) = 0", "image(14, 0) = 33");
        Calls.run("another entry in the same cell is YOUNG anew, and one that is not stays so",
            "create(0, 1, false) = 1", "create(0, 2, false) = 2", "sync() = 1", "link(0, 3, 1) = 2", "flush(1) = 0",
            "remove(0, 3) = 1", "link(0, 4, 2) = 2", "cached(2, 2) = 130", "flush(2) = 1", "image(2, 2) = 0",
            "flush(1) = 0", "flush(2) = 0", "image(2, 2) = 130");
        Calls.run("two entries for inodes of two groups in one block",
            "create(0, 1, true) = 6", "create(6, 1, false) = 7", "create(0, 2, false) = 1", "sync() = 3",
            "link(0, 3, 7) = 2", "link(0, 4, 1) = 2", "flush(2) = 2", "flush(1) = 0", "flush(2) = 1", "image(2, 2) = 0",
            "image(2, 3) = 129", "flush(13) = 0", "flush(2) = 0", "image(2, 2) = 103");
    }

    private static void raised() {
        Calls.run("making it raises LINKS of its inode in memory by 1",
            "create(0, 1, false) = 1", "cached(1, 6) = 1", "link(0, 2, 1) = 2", "cached(1, 6) = 2", "link(0, 3, 1) = 3",
            "cached(1, 6) = 3", "image(1, 6) = 0", "create(0, 4, true) = 6", "cached(13, 1) = 1", "sync() = 3",
            "rename(0, 4, 0, 5) = 6", "cached(13, 1) = 2", "rename(0, 1, 0, 6) = 1", "cached(1, 6) = 4",
            "image(1, 6) = 3");
    }

    private static void fallsAtOnce() {
        Calls.run("at once when the cell on the disk is 0",
            "create(0, 1, false) = 1", "link(0, 2, 1) = 2", "remove(0, 1) = 1", "cached(2, 0) = 0", "cached(1, 6) = 1",
            "cached(1, 5) = 1", "remove(0, 2) = 1", "cached(1, 6) = 0", "cached(1, 5) = 0");
        Calls.run("also when it was held back there",
            "create(0, 1, false) = 1", "flush(2) = 1", "remove(0, 1) = 1", "cached(1, 6) = 0", "cached(0, 1) = 0");
        Calls.run("a directory too",
            "create(0, 1, true) = 6", "remove(0, 1) = 6", "cached(13, 1) = 0", "cached(12, 0) = 0",
            "cached(12, 6) = 0");
    }

    private static void fallsLater() {
        Calls.run("otherwise when that cell becomes 0 on the disk",
            "create(0, 1, false) = 1", "link(0, 2, 1) = 2", "sync() = 1", "remove(0, 1) = 1", "cached(1, 6) = 2",
            "flush(0) = 0", "flush(1) = 0", "cached(1, 6) = 2", "flush(2) = 0", "image(2, 0) = 0", "cached(1, 6) = 1",
            "image(1, 6) = 2", "flush(2) = 0", "cached(1, 6) = 1");
        Calls.run("not when it is held back there",
            "create(0, 1, false) = 1", "sync() = 1", "rename(0, 1, 0, 2) = 1", "cached(1, 6) = 2", "flush(2) = 2",
            "cached(1, 6) = 2", "flush(1) = 0", "flush(2) = 1", "cached(1, 6) = 2", "flush(2) = 0", "cached(1, 6) = 1");
        Calls.run("two entries of one inode in one write-back",
            "create(0, 1, false) = 1", "link(0, 2, 1) = 2", "link(0, 3, 1) = 3", "sync() = 1", "remove(0, 1) = 1",
            "remove(0, 3) = 1", "cached(1, 6) = 3", "flush(2) = 0", "cached(1, 6) = 1", "cached(1, 5) = 1",
            "remove(0, 2) = 1", "cached(1, 6) = 1", "flush(2) = 0", "cached(1, 6) = 0", "cached(1, 5) = 0");
        Calls.run("or when the directory's block is freed",
            "create(0, 1, true) = 6", "create(6, 1, false) = 7", "link(0, 2, 7) = 2", "link(6, 3, 7) = 3", "sync() = 3",
            "remove(6, 1) = 7", "remove(6, 3) = 7", "remove(0, 1) = 6", "flush(2) = 0", "cached(13, 6) = 3",
            "flush(13) = 0", "cached(13, 6) = 1", "image(14, 0) = 39", "image(14, 1) = 103", "flush(14) = 0",
            "flush(13) = 0", "cached(13, 6) = 1", "image(13, 6) = 1", "read(7, 0) = 0", "lookup(0, 2) = 7");
        Calls.run("an entry made and taken away in the meantime does not change what is due",
            "create(0, 1, false) = 1", "link(0, 2, 1) = 2", "sync() = 1", "remove(0, 1) = 1", "link(0, 1, 1) = 3",
            "cached(2, 2) = 33", "remove(0, 1) = 1", "cached(1, 6) = 2", "flush(2) = 0", "cached(1, 6) = 1");
    }

    private static void root() {
        Calls.run("Root's LINKS never change",
            "create(0, 1, true) = 6", "cached(1, 1) = 1", "create(6, 1, true) = 12", "rename(6, 1, 0, 2) = 12",
            "remove(0, 2) = 12", "cached(1, 1) = 1", "sync() = 3", "cached(1, 1) = 1", "image(1, 1) = 1",
            "remove(0, 1) = 6", "reclaim() = 0", "cached(1, 1) = 1", "image(1, 1) = 1", "defects(4) = 0",
            "crash() = true", "reclaim() = 0", "cached(1, 1) = 1", "cached(1, 0) = 2", "cached(1, 2) = 2");
    }
}
