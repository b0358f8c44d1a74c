/** Promise 11: sync. */
public final class Promise11SyncTest {
    public static void main(String[] args) {
        Calls.run("nothing to do", "sync() = 0", "sync() = 0");
        Calls.run("a file", "create(0, 1, false) = 1", "sync() = 1", "sync() = 0");
        Calls.run("a file with a word",
            "create(0, 1, false) = 1", "write(1, 0, 0) = 3", "sync() = 2", "image(1, 7) = 3", "sync() = 0");
        Calls.run("a word of a block that is there",
            "create(0, 1, false) = 1", "write(1, 0, 1) = 3", "sync() = 2", "write(1, 0, 2) = 3", "sync() = 1",
            "image(3, 0) = 2", "write(1, 0, 2) = 3", "sync() = 0");
        Calls.run("a directory in a later group", "create(0, 1, true) = 6", "sync() = 3", "image(2, 0) = 38");
        Calls.run("a file is removed",
            "create(0, 1, false) = 1", "write(1, 0, 1) = 3", "sync() = 2", "remove(0, 1) = 1", "sync() = 3",
            "image(0, 1) = 0", "image(0, 7) = 0", "image(1, 5) = 0", "image(2, 0) = 0", "image(3, 0) = 1");
        Calls.run("a FRESH block alone is not alike",
            "create(0, 1, false) = 1", "write(1, 0, 0) = 3", "flush(0) = 0", "flush(1) = 1", "flush(2) = 0",
            "sync() = 2", "sync() = 0");
        Calls.run("directories that change places",
            "create(0, 1, true) = 6", "create(6, 2, true) = 12", "sync() = 3", "rename(6, 2, 0, 2) = 12",
            "rename(0, 1, 12, 1) = 6", "sync() = 3", "image(2, 0) = 0", "image(2, 1) = 76", "image(26, 0) = 38",
            "image(14, 0) = 0", "crash() = true", "lookup(12, 1) = 6");
        Calls.on(Setups.everyBlock(), "the last block too",
            "sync() = 3", "image(35, 0) = 135", "image(34, 0) = 134", "image(25, 14) = 35", "sync() = 0",
            "write(14, 23, 9) = 35", "sync() = 1", "image(35, 7) = 9");
        Calls.run("a data block that no pointer names is not looked at",
            "create(0, 1, false) = 1", "write(1, 0, 5) = 3", "cut(1, 0) = 1", "cached(3, 0) = 5", "sync() = 1",
            "image(3, 0) = 0", "sync() = 0");
        same();
        Due.end();
    }

    private static void same() {
        OrderedVolume volume = new OrderedVolume();
        Calls.on(volume, "before",
            "create(0, 1, true) = 6", "create(6, 2, true) = 12", "create(12, 3, false) = 13",
            "write(13, 0, 1) = 27", "write(13, 9, 2) = 28", "link(0, 4, 13) = 2", "flush(25) = 3",
            "rename(6, 2, 0, 5) = 12", "remove(0, 4) = 13");
        Due.is("passes", volume.sync() > 0, true);
        for (int b = 0; b < 36; b++) {
            for (int c = 0; c < 30; c++) {
                Due.is("image(" + b + ", " + c + ")", volume.image(b, c), volume.cached(b, c));
            }
        }
        Calls.on(volume, "after",
            "sync() = 0", "defects(0) = 0", "defects(1) = 0", "defects(2) = 0", "defects(3) = 0", "defects(4) = 0",
            "defects(5) = 0");
    }
}
