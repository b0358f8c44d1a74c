/** Promise 13: reclaim. */
public final class Promise13ReclaimTest {
    public static void main(String[] args) {
        Calls.run("nothing to reclaim",
            "reclaim() = 0", "create(0, 1, false) = 1", "write(1, 0, 5) = 3", "reclaim() = 0", "read(1, 0) = 5",
            "image(3, 0) = 5", "image(1, 7) = 3", "sync() = 0", "remove(0, 1) = 1", "reclaim() = 0",
            "image(0, 1) = 0", "image(0, 7) = 0");
        Calls.run("marks of unused inodes and blocks",
            "create(0, 1, false) = 1", "write(1, 0, 5) = 3", "write(1, 8, 5) = 4", "create(0, 2, true) = 6",
            "flush(0) = 0", "flush(12) = 0", "crash() = true", "cached(0, 7) = 1", "cached(0, 1) = 1",
            "reclaim() = 5", "cached(0, 1) = 0", "cached(0, 7) = 0", "cached(0, 8) = 0", "cached(12, 0) = 0",
            "cached(12, 6) = 0", "image(0, 1) = 0", "image(0, 7) = 0", "image(12, 6) = 0", "cached(0, 0) = 1",
            "cached(0, 6) = 1", "sync() = 0", "reclaim() = 0");
        Calls.run("a KIND without a mark is no mark",
            "create(0, 1, false) = 1", "flush(1) = 0", "crash() = true", "cached(1, 5) = 1", "cached(1, 6) = 1",
            "reclaim() = 0", "cached(1, 5) = 0", "cached(1, 6) = 0", "image(1, 5) = 0", "image(1, 6) = 0",
            "create(0, 1, false) = 1");
        Calls.run("a whole tree that is cut off",
            "create(0, 1, true) = 6", "create(6, 2, true) = 12", "create(12, 3, false) = 13",
            "write(13, 0, 4) = 27", "sync() = 3", "remove(12, 3) = 13", "remove(6, 2) = 12", "remove(0, 1) = 6",
            "flush(2) = 0", "crash() = true", "defects(3) = 3", "defects(2) = 3", "cached(13, 0) = 2",
            "cached(14, 0) = 76", "reclaim() = 6", "cached(13, 0) = 0", "cached(13, 1) = 0", "cached(13, 2) = 0",
            "cached(25, 5) = 0", "cached(25, 7) = 0", "image(25, 7) = 0", "image(14, 0) = 76", "defects(2) = 0",
            "defects(3) = 0", "sync() = 0");
        Calls.run("counts that are too high",
            "create(0, 1, false) = 1", "sync() = 1", "link(0, 2, 1) = 2", "link(0, 3, 1) = 3", "flush(1) = 0",
            "crash() = true", "cached(1, 6) = 3", "defects(4) = 1", "reclaim() = 0", "cached(1, 6) = 1",
            "image(1, 6) = 1", "cached(1, 1) = 1", "defects(4) = 0", "remove(0, 1) = 1", "sync() = 3",
            "cached(0, 1) = 0");
        Calls.run("entries of directories that are not in the tree do not count",
            "create(0, 1, true) = 6", "create(6, 2, false) = 7", "link(0, 3, 7) = 2", "sync() = 3",
            "remove(6, 2) = 7", "remove(0, 1) = 6", "flush(2) = 0", "crash() = true", "cached(13, 6) = 2",
            "reclaim() = 2", "cached(13, 6) = 1", "lookup(0, 3) = 7");
        Calls.run("nor do those of a directory with a greater number",
            "create(0, 1, true) = 6", "create(0, 2, false) = 1", "link(6, 1, 1) = 2", "sync() = 3", "remove(6, 1) = 1",
            "remove(0, 1) = 6", "flush(2) = 0", "crash() = true", "cached(14, 0) = 33", "cached(1, 6) = 2",
            "reclaim() = 2", "cached(1, 6) = 1", "image(1, 6) = 1");
        Calls.run("a SYNC comes first",
            "create(0, 1, true) = 6", "write(6, 0, 1) = NONE", "create(6, 2, false) = 7", "write(7, 0, 3) = 15",
            "reclaim() = 0", "crash() = true", "read(7, 0) = 3", "cut(7, 0) = 1", "reclaim() = 0",
            "cached(12, 7) = 0", "image(12, 7) = 0");
        Calls.on(Setups.everyBlock(), "all blocks but one, of every group, the last one too",
            "flush(0) = 0", "flush(12) = 0", "flush(24) = 0", "crash() = true", "cached(24, 15) = 1",
            "reclaim() = 40", "cached(0, 6) = 1", "cached(0, 7) = 0", "cached(0, 15) = 0", "cached(12, 6) = 0",
            "cached(12, 15) = 0", "cached(24, 6) = 0", "cached(24, 15) = 0", "image(0, 15) = 0", "image(12, 15) = 0",
            "image(24, 15) = 0", "image(0, 6) = 1", "reclaim() = 0");
        Calls.on(Setups.everyInode(), "all inodes but the root, of every group, the last one too",
            "flush(0) = 0", "flush(12) = 0", "flush(24) = 0", "flush(1) = 0", "flush(13) = 1", "flush(25) = 1",
            "crash() = true", "cached(25, 25) = 1", "cached(25, 26) = 1", "cached(24, 5) = 1", "reclaim() = 19",
            "cached(25, 25) = 0", "cached(25, 26) = 0", "cached(24, 5) = 0", "image(25, 25) = 0", "image(25, 26) = 0",
            "image(24, 5) = 0", "cached(1, 0) = 2", "cached(1, 1) = 1", "cached(1, 2) = 2", "cached(0, 0) = 1",
            "cached(1, 5) = 0", "cached(13, 0) = 0", "image(1, 5) = 0", "image(13, 0) = 0", "image(13, 1) = 0");
        Calls.on(Setups.everyBlock(), "nothing when all is in use",
            "reclaim() = 0", "cached(24, 15) = 1", "image(24, 15) = 1", "read(14, 16) = 135", "sync() = 0");
        Calls.run("marks that the SYNC itself made 0 are not counted",
            "create(0, 1, false) = 1", "write(1, 0, 5) = 3", "sync() = 2", "remove(0, 1) = 1", "cached(0, 1) = 1",
            "reclaim() = 0", "cached(0, 1) = 0", "image(0, 7) = 0");
        Calls.run("the pointers of an inode that is not in the tree, all three",
            "create(0, 1, false) = 1", "write(1, 0, 1) = 3", "write(1, 8, 1) = 4", "write(1, 16, 1) = 5", "sync() = 2",
            "remove(0, 1) = 1", "flush(2) = 0", "crash() = true", "cached(1, 9) = 5", "reclaim() = 4",
            "cached(1, 5) = 0", "cached(1, 6) = 0", "cached(1, 7) = 0", "cached(1, 8) = 0", "cached(1, 9) = 0",
            "image(1, 7) = 0", "image(1, 9) = 0", "cached(0, 9) = 0", "cached(3, 0) = 1");
        Calls.run("what follows finds all free again",
            "create(0, 1, false) = 1", "write(1, 0, 1) = 3", "sync() = 2", "remove(0, 1) = 1", "flush(2) = 0",
            "crash() = true", "create(0, 2, false) = 2", "reclaim() = 2", "create(0, 3, false) = 1",
            "write(1, 0, 1) = 3", "sync() = 2", "defects(2) = 0", "defects(3) = 0");
        Calls.run("LINKS of an inode with entries in two directories of the tree",
            "create(0, 1, true) = 6", "create(0, 2, false) = 1", "link(6, 1, 1) = 2", "link(6, 2, 1) = 3", "sync() = 3",
            "link(0, 3, 1) = 4", "flush(1) = 0", "crash() = true", "cached(1, 6) = 4", "reclaim() = 0",
            "cached(1, 6) = 3", "image(1, 6) = 3", "cached(13, 1) = 1");
        Calls.run("entries in all eight cells count, the last one too",
            "create(0, 1, false) = 1", "link(0, 2, 1) = 2", "link(0, 3, 1) = 3", "link(0, 4, 1) = 4",
            "link(0, 5, 1) = 5", "link(0, 6, 1) = 6", "link(0, 7, 1) = 7", "link(0, 8, 1) = 8", "reclaim() = 0",
            "cached(1, 6) = 8", "image(1, 6) = 8", "defects(4) = 0", "defects(5) = 0");
        Calls.on(Setups.everyInode(), "entries of the last inode count, and its own LINKS",
            "remove(12, 5) = 17", "create(0, 8, true) = 17", "link(17, 1, 16) = 2", "reclaim() = 0",
            "cached(25, 21) = 2", "image(25, 21) = 2", "cached(25, 26) = 1", "defects(4) = 0", "defects(5) = 0");
        Due.end();
    }
}
