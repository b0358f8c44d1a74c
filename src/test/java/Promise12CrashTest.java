/** Promise 12: crash. */
public final class Promise12CrashTest {
    public static void main(String[] args) {
        Calls.run("memory is lost",
            "create(0, 1, false) = 1", "write(1, 0, 7) = 3", "crash() = true", "lookup(0, 1) = NONE",
            "cached(0, 1) = 0", "cached(1, 5) = 0", "cached(3, 0) = 0", "sync() = 0", "create(0, 1, false) = 1");
        Calls.run("the disk stays",
            "create(0, 1, false) = 1", "write(1, 0, 7) = 3", "sync() = 2", "write(1, 0, 8) = 3", "remove(0, 1) = 1",
            "crash() = true", "lookup(0, 1) = 1", "read(1, 0) = 7", "image(3, 0) = 7");
        directoryRenames();
        everySync();
        nothingIsLeft();
        Due.end();
    }

    /** The SYNC that lifts the refusal, in whatever call that was. */
    private static void everySync() {
        Calls.run("sync, also when it takes no pass",
            "create(0, 1, true) = 6", "sync() = 3", "rename(0, 1, 0, 2) = 6", "flush(13) = 0", "flush(2) = 1",
            "flush(2) = 0", "flush(13) = 0", "crash() = false", "sync() = 0", "crash() = true", "lookup(0, 2) = 6");
        Calls.on(Setups.noPlace(), "link", "rename(0, 8, 12, 1) = BUSY", "create(12, 1, true) = 13",
            "rename(12, 1, 12, 2) = 13", "crash() = false", "link(12, 3, 1) = 2", "crash() = false",
            "link(0, 9, 1) = 3", "crash() = true", "lookup(12, 2) = 13", "lookup(0, 9) = NONE");
        Calls.on(Setups.noPlace(), "the rename of a file",
            "create(12, 1, true) = 13", "rename(12, 1, 12, 2) = 13", "crash() = false", "rename(0, 1, 0, 9) = 1",
            "crash() = true", "lookup(12, 2) = 13", "lookup(0, 1) = 1");
        Calls.on(Setups.noPlace(), "the rename of a directory makes its SYNC before",
            "rename(0, 8, 0, 9) = 12", "image(2, 2) = 0", "crash() = false", "sync() = 2", "crash() = true");
        Calls.on(Setups.everyInode(), "create, also a refused one",
            "rename(0, 1, 0, 8) = 6", "crash() = false", "create(0, 8, false) = EXISTS", "crash() = false",
            "create(0, 9, false) = FULL", "crash() = true", "lookup(0, 8) = 6");
        Calls.on(Setups.everyBlock(), "write, also a refused one",
            "create(12, 3, false) = 15", "rename(0, 1, 0, 8) = 6", "write(15, 24, 1) = NONE", "crash() = false",
            "write(1, 0, 1) = 3", "crash() = false", "write(15, 0, 1) = FULL", "crash() = true", "lookup(0, 8) = 6");
        Calls.on(Setups.everyBlock(), "write that succeeds after its SYNC",
            "create(12, 3, false) = 15", "sync() = 3", "rename(0, 1, 0, 8) = 6", "cut(1, 2) = 1", "crash() = false",
            "write(15, 0, 1) = 5", "crash() = true", "read(15, 0) = 0", "lookup(0, 8) = 6");
        Calls.run("reclaim",
            "create(0, 1, true) = 6", "rename(0, 1, 0, 2) = 6", "crash() = false", "reclaim() = 0", "crash() = true");
        Calls.run("since the beginning: nothing has been renamed",
            "crash() = true", "create(0, 1, true) = 6", "crash() = true", "lookup(0, 1) = NONE");
        Calls.run("a directory that was renamed and then removed",
            "create(0, 1, true) = 6", "sync() = 3", "rename(0, 1, 0, 2) = 6", "remove(0, 2) = 6", "crash() = false",
            "sync() = 2", "crash() = true", "lookup(0, 1) = NONE", "lookup(0, 2) = NONE");
    }

    private static void directoryRenames() {
        Calls.run("false since a directory was renamed, until a SYNC",
            "create(0, 1, true) = 6", "sync() = 3", "rename(0, 1, 0, 2) = 6", "crash() = false", "lookup(0, 2) = 6",
            "cached(2, 1) = 70", "crash() = false", "sync() = 3", "crash() = true", "lookup(0, 2) = 6");
        Calls.run("also a directory that the disk never had",
            "create(0, 1, true) = 6", "rename(0, 1, 0, 2) = 6", "remove(0, 2) = 6", "crash() = false",
            "sync() = 0", "crash() = true");
        Calls.run("not since a file was renamed, or a rename was refused",
            "create(0, 1, false) = 1", "rename(0, 1, 0, 2) = 1", "create(0, 3, true) = 6",
            "rename(0, 3, 6, 1) = BUSY", "rename(0, 3, 0, 2) = EXISTS", "rename(0, 3, 0, 1000) = NONE",
            "crash() = true");
        Calls.run("the SYNC of reclaim is one too",
            "create(0, 1, true) = 6", "rename(0, 1, 0, 2) = 6", "reclaim() = 0", "crash() = true",
            "lookup(0, 2) = 6", "rename(0, 2, 0, 3) = 6", "crash() = false", "reclaim() = 0", "crash() = true");
        Calls.run("so is that of a create, and a rename makes its own before",
            "create(0, 1, true) = 6", "create(0, 2, false) = 1", "create(0, 3, false) = 2", "create(0, 4, false) = 3",
            "create(0, 5, false) = 4", "create(0, 6, false) = 5", "create(0, 7, false) = 7", "sync() = 3",
            "rename(0, 1, 0, 8) = 6", "crash() = false", "create(0, 9, false) = 8", "crash() = true",
            "lookup(0, 8) = 6", "lookup(0, 9) = NONE", "create(0, 9, false) = 8", "sync() = 2", "remove(0, 2) = 1",
            "rename(0, 8, 0, 10) = 6", "image(2, 1) = 0", "crash() = false");
        Calls.run("a file's rename after a directory's changes nothing in this",
            "create(0, 1, true) = 6", "create(0, 2, false) = 1", "rename(0, 1, 0, 3) = 6",
            "rename(0, 2, 0, 4) = 1", "crash() = false");
        Calls.run("flushes are no SYNC",
            "create(0, 1, true) = 6", "rename(0, 1, 0, 2) = 6", "flush(12) = 0", "flush(14) = 0", "flush(13) = 0",
            "flush(2) = 0", "crash() = false");
    }

    private static void nothingIsLeft() {
        Calls.run("no LINKS fall for entries taken away before",
            "create(0, 1, false) = 1", "link(0, 2, 1) = 2", "sync() = 1", "remove(0, 1) = 1", "crash() = true",
            "lookup(0, 1) = 1", "flush(2) = 0", "sync() = 0", "cached(1, 6) = 2");
        Calls.run("nothing is DROPPED",
            "create(0, 1, false) = 1", "write(1, 0, 7) = 3", "sync() = 2", "cut(1, 0) = 1", "crash() = true",
            "read(1, 0) = 7", "flush(1) = 0", "cached(0, 7) = 1", "sync() = 0");
        Calls.run("nothing is DROPPED, so that no LINKS fall for it later",
            "create(0, 1, true) = 6", "create(6, 2, false) = 7", "link(0, 3, 7) = 2", "sync() = 3",
            "remove(6, 2) = 7", "remove(0, 1) = 6", "flush(2) = 0", "crash() = true", "reclaim() = 2",
            "flush(0) = 0", "cached(13, 6) = 1", "lookup(0, 3) = 7", "cached(13, 5) = 1");
        Calls.run("nothing is RELEASED, so that no mark goes later",
            "create(0, 1, false) = 1", "sync() = 1", "remove(0, 1) = 1", "flush(2) = 0", "crash() = true",
            "reclaim() = 1", "create(0, 2, false) = 1", "flush(0) = 0", "cached(0, 1) = 1", "sync() = 1");
        Calls.run("nothing is RELEASED",
            "create(0, 1, false) = 1", "sync() = 1", "remove(0, 1) = 1", "flush(2) = 0", "cached(1, 5) = 0",
            "crash() = true", "cached(1, 5) = 1", "flush(1) = 0", "cached(0, 1) = 1", "lookup(0, 1) = NONE",
            "create(0, 1, false) = 2", "sync() = 1", "cached(0, 1) = 1", "cached(1, 5) = 1", "cached(1, 6) = 1");
        Calls.on(Setups.everyInode(), "nothing is RELEASED: the last inode",
            "sync() = 3", "remove(12, 5) = 17", "flush(26) = 0", "cached(25, 25) = 0", "crash() = true",
            "cached(25, 25) = 1", "cached(24, 5) = 1", "reclaim() = 1", "create(12, 6, false) = 17", "flush(24) = 0",
            "flush(0) = 0", "cached(24, 5) = 1", "sync() = 1");
        Calls.on(Setups.everyBlock(), "nothing is DROPPED: the last block",
            "sync() = 3", "cut(14, 2) = 1", "crash() = true", "cached(25, 14) = 35", "cached(24, 15) = 1",
            "flush(25) = 0", "cached(24, 15) = 1", "read(14, 16) = 135", "sync() = 0");
        Calls.run("nothing is FRESH, memory is what the image shows",
            "create(0, 1, false) = 1", "write(1, 0, 7) = 3", "sync() = 2", "cut(1, 0) = 1", "flush(1) = 0",
            "write(1, 1, 8) = 3", "cached(3, 0) = 0", "image(3, 0) = 7", "crash() = true", "cached(3, 0) = 7",
            "cached(3, 1) = 0", "cached(0, 7) = 1", "read(1, 0) = 0", "write(1, 0, 9) = 4", "reclaim() = 1",
            "cached(0, 7) = 0");
        Calls.run("a released inode that is free on the disk but for its mark",
            "create(0, 1, false) = 1", "sync() = 1", "remove(0, 1) = 1", "flush(2) = 0", "flush(1) = 0",
            "cached(0, 1) = 0", "crash() = true", "cached(0, 1) = 1", "create(0, 1, false) = 2", "reclaim() = 1",
            "create(0, 2, false) = 1");
    }
}
