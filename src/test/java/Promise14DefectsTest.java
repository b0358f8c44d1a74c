/** Promise 14: defects. (Kinds 0, 1 and 5 stay 0 by the order of writing back: RandomRunsTest.) */
public final class Promise14DefectsTest {
    public static void main(String[] args) {
        Calls.run("another kind",
            "defects(-1) = NONE", "defects(6) = NONE", "defects(MIN) = NONE", "defects(MAX) = NONE",
            "defects(0) = 0", "defects(5) = 0");
        Calls.run("marks without use, on the disk alone",
            "create(0, 1, false) = 1", "write(1, 0, 7) = 3", "write(1, 8, 7) = 4", "defects(2) = 0",
            "defects(3) = 0", "flush(0) = 0", "defects(2) = 2", "defects(3) = 1", "flush(3) = 0", "flush(1) = 1",
            "defects(2) = 2", "defects(3) = 1", "flush(2) = 0", "defects(2) = 1", "defects(3) = 0",
            "flush(4) = 0", "flush(1) = 0", "defects(2) = 0", "defects(0) = 0", "defects(1) = 0",
            "defects(4) = 0", "defects(5) = 0");
        Calls.run("a KIND without a mark, and a mark without a KIND",
            "create(0, 1, false) = 1", "create(0, 2, true) = 6", "flush(1) = 0", "defects(3) = 1",
            "flush(12) = 0", "defects(3) = 2", "defects(2) = 1", "flush(13) = 1", "defects(3) = 2",
            "flush(0) = 0", "defects(3) = 2", "flush(2) = 1", "defects(3) = 1");
        Calls.run("LINKS that are too many",
            "create(0, 1, false) = 1", "create(0, 2, false) = 2", "sync() = 1", "link(0, 3, 1) = 2",
            "link(0, 4, 2) = 2", "defects(4) = 0", "flush(1) = 0", "defects(4) = 2", "defects(5) = 0",
            "flush(2) = 0", "defects(4) = 0", "remove(0, 1) = 1", "flush(2) = 0", "defects(4) = 1",
            "flush(1) = 0", "defects(4) = 0");
        Calls.run("what is below a directory that the disk lost",
            "create(0, 1, true) = 6", "create(6, 2, false) = 7", "write(7, 0, 1) = 15", "sync() = 3",
            "remove(6, 2) = 7", "remove(0, 1) = 6", "defects(2) = 0", "flush(2) = 0", "defects(2) = 2",
            "defects(3) = 2", "defects(4) = 0", "flush(13) = 0", "defects(3) = 2", "flush(12) = 0",
            "defects(2) = 1", "flush(13) = 0", "defects(3) = 1", "flush(12) = 0", "defects(2) = 0",
            "defects(3) = 0");
        Calls.run("kinds 0 .. 5, and those beside",
            "defects(-1) = NONE", "defects(0) = 0", "defects(1) = 0", "defects(2) = 0", "defects(3) = 0",
            "defects(4) = 0", "defects(5) = 0", "defects(6) = NONE");
        Calls.on(Setups.everyBlock(), "2 and 3 count in every group, from the least to the greatest number",
            "flush(24) = 0", "defects(2) = 10", "defects(3) = 3", "flush(12) = 0", "defects(2) = 20",
            "defects(3) = 7", "flush(0) = 0", "defects(2) = 29", "defects(3) = 11", "defects(0) = 0",
            "defects(1) = 0", "defects(4) = 0", "defects(5) = 0", "sync() = 3", "defects(2) = 0", "defects(3) = 0");
        Calls.on(Setups.everyInode(), "3: KINDs without marks, the last inode too",
            "flush(25) = 1", "defects(3) = 6", "flush(13) = 1", "defects(3) = 12", "flush(1) = 0",
            "defects(3) = 17", "defects(2) = 0", "flush(24) = 0", "defects(3) = 17", "defects(2) = 1");
        Calls.run("2: a pointer of an inode that is not in T does not count",
            "create(0, 1, false) = 1", "write(1, 0, 1) = 3", "write(1, 16, 1) = 4", "sync() = 2", "remove(0, 1) = 1",
            "defects(2) = 0", "flush(2) = 0", "defects(2) = 2", "defects(3) = 1", "image(1, 7) = 3");
        Calls.run("4: one more is more, as many is not; the root does not count",
            "create(0, 1, false) = 1", "sync() = 1", "defects(4) = 0", "image(1, 1) = 1", "link(0, 2, 1) = 2",
            "flush(1) = 0", "defects(4) = 1", "flush(2) = 0", "defects(4) = 0", "defects(5) = 0");
        Calls.on(Setups.everyInode(), "4: the last inode",
            "sync() = 3", "link(0, 8, 17) = 2", "flush(25) = 0", "defects(4) = 1", "flush(2) = 0", "defects(4) = 0");
        Calls.run("4: entries of directories that are not in T do not count",
            "create(0, 1, true) = 6", "create(6, 1, false) = 7", "link(0, 2, 7) = 2", "sync() = 3", "remove(6, 1) = 7",
            "remove(0, 1) = 6", "flush(2) = 0", "image(14, 0) = 39", "image(13, 6) = 2", "defects(4) = 1",
            "defects(3) = 1", "defects(5) = 0");
        Calls.run("4: an inode that is not in T does not count",
            "create(0, 1, false) = 1", "flush(0) = 0", "flush(1) = 0", "image(1, 6) = 1", "defects(4) = 0",
            "defects(3) = 1", "flush(2) = 0", "defects(4) = 0", "defects(3) = 0");
        Calls.run("of the disk as it is: what memory has does not count",
            "create(0, 1, false) = 1", "write(1, 0, 1) = 3", "defects(2) = 0", "defects(3) = 0", "sync() = 2",
            "remove(0, 1) = 1", "defects(2) = 0", "defects(3) = 0", "defects(4) = 0", "link(0, 2, 1) = NONE");
        Due.end();
    }
}
