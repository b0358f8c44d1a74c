/** Promise 6: write. */
public final class Promise06WriteTest {
    public static void main(String[] args) {
        Calls.run("words of all blocks",
            "create(0, 1, false) = 1", "write(1, 0, 10) = 3", "write(1, 7, MIN) = 3", "write(1, 8, MAX) = 4",
            "write(1, 15, -1) = 4", "write(1, 16, 0) = 5", "write(1, 23, 12) = 5", "write(1, 0, 11) = 3",
            "read(1, 0) = 11", "read(1, 7) = MIN", "read(1, 8) = MAX", "read(1, 15) = -1", "read(1, 23) = 12",
            "cached(1, 7) = 3", "cached(1, 8) = 4", "cached(1, 9) = 5", "cached(0, 7) = 1", "cached(0, 8) = 1",
            "cached(0, 9) = 1", "cached(5, 7) = 12", "image(3, 0) = 0", "image(0, 7) = 0");
        Calls.run("NONE",
            "create(0, 1, false) = 1", "write(1, -1, 5) = NONE", "write(1, 24, 5) = NONE", "write(1, MAX, 5) = NONE",
            "write(1, MIN, 5) = NONE", "write(0, 0, 5) = NONE", "write(2, 0, 5) = NONE", "write(-1, 0, 5) = NONE",
            "write(18, 0, 5) = NONE", "write(MAX, 0, 5) = NONE", "create(0, 2, true) = 6", "write(6, 0, 5) = NONE",
            "cached(0, 7) = 0", "remove(0, 1) = 1", "write(1, 0, 5) = NONE");
        blocks();
        full();
        Calls.run("w, 0 .. 23: the least and the greatest word of each block",
            "create(0, 1, false) = 1", "write(1, -1, 5) = NONE", "write(1, 24, 5) = NONE", "cached(0, 7) = 0",
            "write(1, 23, 5) = 3", "write(1, 16, 6) = 3", "write(1, 15, 7) = 4", "write(1, 8, 8) = 4",
            "write(1, 7, 9) = 5", "write(1, 0, 1) = 5", "cached(3, 7) = 5", "cached(3, 0) = 6", "cached(4, 7) = 7",
            "cached(4, 0) = 8", "cached(5, 7) = 9", "cached(5, 0) = 1", "cached(1, 7) = 5", "cached(1, 9) = 3");
        Calls.run("v 0 takes a block too",
            "create(0, 1, false) = 1", "write(1, 0, 0) = 3", "cached(1, 7) = 3", "cached(0, 7) = 1");
        Calls.on(Setups.everyBlock(), "the last free block, and none",
            "cut(14, 2) = 1", "write(14, 16, 1) = 35", "image(0, 1) = 0", "create(12, 3, false) = 15",
            "write(15, 0, 1) = FULL", "image(0, 1) = 1", "cached(25, 17) = 0", "read(15, 0) = 0");
        Calls.on(Setups.everyBlock(), "a SYNC frees two, and when they are taken there is none",
            "create(12, 3, false) = 15", "sync() = 3", "cut(1, 1) = 2", "cached(0, 8) = 1", "write(1, 16, 9) = 4",
            "image(0, 8) = 0", "write(1, 8, 9) = 5", "write(15, 0, 9) = FULL");
        Calls.on(Setups.everyBlock(), "a SYNC frees two: that right after the pointer before, not the least",
            "sync() = 3", "cut(1, 2) = 1", "cut(2, 2) = 1", "write(2, 16, 9) = 8", "image(0, 9) = 0",
            "write(1, 16, 9) = 5");
        Calls.run("i is of the tree: not a file that has a KIND and no entry any more",
            "create(0, 1, false) = 1", "write(1, 0, 5) = 3", "sync() = 2", "remove(0, 1) = 1", "cached(1, 5) = 1",
            "write(1, 0, 6) = NONE", "cached(3, 0) = 5", "write(1, 8, 6) = NONE", "cached(0, 8) = 0");
        Due.end();
    }

    private static void blocks() {
        Calls.run("beside the block before, else the least free one",
            "create(0, 1, false) = 1", "create(0, 2, false) = 2", "write(1, 0, 1) = 3", "write(2, 0, 1) = 4",
            "write(1, 8, 1) = 5", "write(2, 8, 1) = 6", "write(2, 16, 1) = 7", "write(1, 16, 1) = 8");
        Calls.run("beside the block before, though a lower one is free",
            "create(0, 1, false) = 1", "create(0, 2, false) = 2", "write(1, 0, 1) = 3", "write(2, 0, 1) = 4",
            "cut(1, 0) = 1", "write(2, 8, 1) = 5", "write(1, 16, 1) = 3", "write(1, 8, 1) = 6");
        Calls.run("after the last block of a group comes no data block",
            "create(0, 1, false) = 1", "create(0, 2, false) = 2", "create(0, 3, false) = 3",
            "create(0, 4, false) = 4", "write(1, 0, 1) = 3", "write(1, 8, 1) = 4", "write(1, 16, 1) = 5",
            "write(2, 0, 1) = 6", "write(2, 8, 1) = 7", "write(2, 16, 1) = 8", "write(3, 0, 1) = 9",
            "write(3, 8, 1) = 10", "write(4, 0, 1) = 11", "cut(1, 1) = 2", "write(4, 8, 1) = 4",
            "write(4, 16, 1) = 5", "write(3, 16, 1) = 14", "create(0, 5, false) = 5", "write(5, 0, 1) = 15",
            "write(5, 8, 1) = 16");
        Calls.run("beginning with the group of the file's inode",
            "create(0, 1, true) = 6", "create(0, 2, true) = 12", "create(12, 1, false) = 13",
            "create(6, 1, false) = 7", "write(13, 23, 1) = 27", "write(7, 0, 1) = 15", "write(13, 0, 1) = 28",
            "write(13, 8, 1) = 29");
        Calls.run("a block taken again has eight cells 0",
            "create(0, 1, false) = 1", "write(1, 3, 9) = 3", "sync() = 2", "cut(1, 0) = 1", "sync() = 2",
            "write(1, 0, 4) = 3", "read(1, 3) = 0", "cached(3, 3) = 0", "image(3, 3) = 9", "flush(1) = 1",
            "flush(3) = 0", "image(3, 3) = 0", "image(3, 0) = 4");
    }

    private static OrderedVolume withoutBlocks() {
        OrderedVolume volume = new OrderedVolume();
        Due.is("create(0, 1, true)", volume.create(0, 1, true), 6);
        for (int n = 0; n < 9; n++) {
            int i = n < 7 ? volume.create(0, 2 + n, false) : volume.create(6, 2 + n, false);
            for (int k = 0; k < 3; k++) {
                Due.is("a block is free", volume.write(i, 8 * k, 100 + n) > 0, true);
            }
        }
        Due.is("create(6, 1, false)", volume.create(6, 1, false), 11);
        Due.is("the last free block", volume.write(11, 0, 1) > 0, true);
        return volume;
    }

    private static void full() {
        Calls.on(withoutBlocks(), "FULL, but the SYNC stays made",
            "image(0, 7) = 0", "write(11, 8, 7) = FULL", "image(0, 7) = 1", "sync() = 0", "read(11, 8) = 0",
            "cached(13, 28) = 0", "write(11, 1, 7) = 35", "write(11, 24, 7) = NONE");
        Calls.on(withoutBlocks(), "a SYNC frees a block",
            "sync() = 3", "cut(1, 1) = 2", "cached(0, 8) = 1", "write(11, 8, 7) = 4", "image(0, 8) = 0",
            "cached(0, 8) = 1", "write(11, 16, 8) = 5");
    }
}
