/** Volumes in the full and the awkward states that several tests begin with. */
final class Setups {
    private Setups() {
    }

    /** An object after these calls, each of which must answer as its row says. */
    static OrderedVolume after(String... rows) {
        OrderedVolume volume = new OrderedVolume();
        Calls.on(volume, "setup", rows);
        return volume;
    }

    /** One directory and one file that the disk has; the file has one word. */
    static OrderedVolume small() {
        return after("create(0, 1, true) = 6", "create(0, 2, false) = 1", "write(1, 0, 7) = 3", "sync() = 3");
    }

    /** As small, with something of each sort under way: FRESH, YOUNG, DROPPED, RELEASED, a fall that is due. */
    static OrderedVolume underWay() {
        OrderedVolume volume = small();
        Calls.on(volume, "under way",
            "create(6, 1, false) = 7", "write(7, 0, 8) = 15", "create(6, 2, true) = 12", "create(0, 3, false) = 2",
            "write(2, 0, 9) = 4", "link(0, 4, 2) = 2", "sync() = 3", "remove(0, 3) = 2", "cut(1, 0) = 1",
            "write(1, 8, 5) = 5", "remove(6, 1) = 7", "flush(14) = 0", "create(6, 3, false) = 8",
            "remove(6, 2) = 12");
        return volume;
    }

    /** The root has eight entries, none of them on the disk. */
    static OrderedVolume fullRoot() {
        return after("create(0, 1, false) = 1", "create(0, 2, false) = 2", "create(0, 3, false) = 3",
            "create(0, 4, false) = 4", "create(0, 5, false) = 5", "create(0, 6, false) = 6",
            "create(0, 7, false) = 7", "create(0, 8, true) = 12");
    }

    /** The root has seven entries, but no place: the disk still has the eighth. */
    static OrderedVolume noPlace() {
        OrderedVolume volume = fullRoot();
        Calls.on(volume, "no place", "sync() = 3", "remove(0, 3) = 3", "write(1, 0, 4) = 3");
        return volume;
    }

    /** All 18 inodes are taken; the disk has none of them. */
    static OrderedVolume everyInode() {
        return after("create(0, 1, true) = 6", "create(0, 2, true) = 12",
            "create(6, 1, false) = 7", "create(6, 2, false) = 8", "create(6, 3, false) = 9",
            "create(6, 4, false) = 10", "create(6, 5, false) = 11",
            "create(12, 1, false) = 13", "create(12, 2, false) = 14", "create(12, 3, false) = 15",
            "create(12, 4, false) = 16", "create(12, 5, false) = 17",
            "create(0, 3, false) = 1", "create(0, 4, false) = 2", "create(0, 5, false) = 3",
            "create(0, 6, false) = 4", "create(0, 7, false) = 5");
    }

    /** All 30 data blocks are taken, in their order; the disk has none of them. */
    static OrderedVolume everyBlock() {
        return after("create(0, 1, true) = 6", "create(0, 2, true) = 12",
            "create(0, 3, false) = 1", "create(0, 4, false) = 2", "create(0, 5, false) = 3", "create(0, 6, false) = 4",
            "create(6, 1, false) = 7", "create(6, 2, false) = 8", "create(6, 3, false) = 9",
            "create(12, 1, false) = 13", "create(12, 2, false) = 14",
            "write(1, 0, 103) = 3", "write(1, 8, 104) = 4", "write(1, 16, 105) = 5",
            "write(2, 0, 106) = 6", "write(2, 8, 107) = 7", "write(2, 16, 108) = 8",
            "write(3, 0, 109) = 9", "write(3, 8, 110) = 10", "write(3, 16, 111) = 11",
            "write(4, 0, 115) = 15", "write(4, 8, 116) = 16", "write(4, 16, 117) = 17",
            "write(7, 0, 118) = 18", "write(7, 8, 119) = 19", "write(7, 16, 120) = 20",
            "write(8, 0, 121) = 21", "write(8, 8, 122) = 22", "write(8, 16, 123) = 23",
            "write(9, 0, 127) = 27", "write(9, 8, 128) = 28", "write(9, 16, 129) = 29",
            "write(13, 0, 130) = 30", "write(13, 8, 131) = 31", "write(13, 16, 132) = 32",
            "write(14, 0, 133) = 33", "write(14, 8, 134) = 34", "write(14, 16, 135) = 35");
    }

    /**
     * Directory 2 is new, in a block 3 whose words on the disk are those of a file and look like entries:
     * name 3, inode 3, and name 4, inode 1. Inode 1 is that file; inode 3 is not taken.
     */
    static OrderedVolume fileWordsBelow() {
        return after("create(0, 1, false) = 1", "write(1, 0, 99) = 3", "write(1, 1, 129) = 3", "sync() = 2",
            "cut(1, 0) = 1", "flush(1) = 0", "create(0, 2, true) = 6", "create(0, 3, true) = 12",
            "create(0, 4, true) = 7", "create(0, 5, true) = 13", "create(0, 6, true) = 2", "cached(1, 12) = 3",
            "image(3, 0) = 99", "image(3, 1) = 129");
    }

    /** After a crash the root has the name 1 twice: cell 0 names inode 1, cell 2 inode 2; cell 1 is name 2, inode 1. */
    static OrderedVolume oneNameTwice() {
        return after("create(0, 1, false) = 1", "sync() = 1", "rename(0, 1, 0, 2) = 1", "create(0, 1, false) = 2",
            "flush(0) = 0", "flush(1) = 0", "flush(2) = 1", "crash() = true",
            "cached(2, 0) = 33", "cached(2, 1) = 65", "cached(2, 2) = 34");
    }
}
