import java.util.function.Supplier;

/** The order of the refusals, and that a refused call changes nothing but what its SYNC changes. */
public final class RefusalsTest {
    public static void main(String[] args) {
        create();
        link();
        remove();
        rename();
        write();
        cutAndFlush();
        crash();
        onlyLooking();
        Due.end();
    }

    private static OrderedVolume and(OrderedVolume volume, String... rows) {
        Calls.on(volume, "setup", rows);
        return volume;
    }

    private static void create() {
        Refused.changesNothing("NONE before EXISTS and FULL", Setups::fullRoot,
            "create(0, 0, false) = NONE", "create(0, 1000, true) = NONE", "create(0, -1, false) = NONE",
            "create(0, MIN, true) = NONE", "create(0, MAX, false) = NONE", "create(-1, 1, false) = NONE",
            "create(18, 1, true) = NONE", "create(1, 1, false) = NONE", "create(13, 1, true) = NONE",
            "create(MIN, 1, false) = NONE", "create(MAX, 1, true) = NONE", "create(1, 0, true) = NONE");
        Refused.changesNothing("EXISTS before FULL", Setups::fullRoot,
            "create(0, 1, false) = EXISTS", "create(0, 8, true) = EXISTS");
        Refused.changesNothing("FULL with eight entries, without a SYNC", Setups::fullRoot,
            "create(0, 9, false) = FULL", "create(0, 999, true) = FULL");
        Refused.changesNothing("EXISTS and NONE without a SYNC, though there is no place", Setups::noPlace,
            "create(0, 1, false) = EXISTS", "create(0, 8, true) = EXISTS", "create(0, 0, false) = NONE",
            "create(0, 1000, true) = NONE");
        Refused.changesNothing("EXISTS and NONE without a SYNC, though there is no inode", Setups::everyInode,
            "create(0, 1, false) = EXISTS", "create(12, 5, true) = EXISTS", "create(12, 0, false) = NONE",
            "create(17, 9, true) = NONE");
        Supplier<OrderedVolume> eight = () -> and(Setups.everyInode(), "link(0, 8, 1) = 2");
        Refused.changesNothing("FULL with eight entries and no inode: without a SYNC", eight,
            "create(0, 9, false) = FULL", "create(0, 9, true) = FULL", "create(0, 8, false) = EXISTS");
        Refused.changesBySyncAlone("FULL without an inode, after a SYNC", Setups::everyInode,
            "create(0, 8, false) = FULL", "create(0, 999, true) = FULL", "create(6, 9, false) = FULL",
            "create(12, 9, true) = FULL");
        Refused.changesNothing("EXISTS and NONE without a SYNC, though there is no block", Setups::everyBlock,
            "create(0, 1, true) = EXISTS", "create(0, 1000, true) = NONE");
        Refused.changesBySyncAlone("FULL without a block, after a SYNC", Setups::everyBlock,
            "create(0, 9, true) = FULL", "create(12, 9, true) = FULL");
        Supplier<OrderedVolume> threeLack = () -> and(Setups.everyBlock(),
            "create(0, 7, false) = 5", "create(6, 4, false) = 10", "create(6, 5, false) = 11",
            "create(12, 3, false) = 15", "create(12, 4, false) = 16", "create(12, 5, false) = 17");
        Refused.changesBySyncAlone("FULL without inode and block", threeLack,
            "create(0, 9, true) = FULL", "create(0, 9, false) = FULL");
        Supplier<OrderedVolume> placeButNoInode = () -> and(Setups.everyInode(),
            "link(0, 8, 1) = 2", "sync() = 3", "remove(0, 8) = 1");
        Refused.changesBySyncAlone("a SYNC that makes a place, but no inode", placeButNoInode,
            "create(0, 9, false) = FULL", "create(0, 9, true) = FULL");
        Refused.changesNothing("with much under way", Setups::underWay,
            "create(0, 1, false) = EXISTS", "create(6, 3, true) = EXISTS", "create(1, 9, false) = NONE",
            "create(7, 9, false) = NONE", "create(12, 9, false) = NONE", "create(0, 0, true) = NONE");
    }

    private static void link() {
        Refused.changesNothing("NONE before EXISTS and FULL", Setups::fullRoot,
            "link(0, 0, 1) = NONE", "link(0, 1000, 1) = NONE", "link(0, 1, 12) = NONE", "link(0, 9, 12) = NONE",
            "link(0, 1, 0) = NONE", "link(0, 1, 13) = NONE", "link(0, 1, -1) = NONE", "link(0, 1, 18) = NONE",
            "link(1, 1, 1) = NONE", "link(-1, 9, 1) = NONE", "link(18, 9, 1) = NONE", "link(13, 9, 1) = NONE",
            "link(0, MIN, 1) = NONE", "link(MAX, 9, 1) = NONE", "link(0, 9, MIN) = NONE");
        Refused.changesNothing("EXISTS before FULL", Setups::fullRoot,
            "link(0, 1, 1) = EXISTS", "link(0, 8, 2) = EXISTS");
        Refused.changesNothing("FULL with eight entries, without a SYNC", Setups::fullRoot,
            "link(0, 9, 1) = FULL", "link(0, 999, 7) = FULL");
        Refused.changesNothing("EXISTS and NONE without a SYNC, though there is no place", Setups::noPlace,
            "link(0, 1, 1) = EXISTS", "link(0, 8, 1) = EXISTS", "link(0, 9, 12) = NONE", "link(0, 9, 3) = NONE",
            "link(0, 1000, 1) = NONE", "link(0, 0, 1) = NONE");
        Refused.changesNothing("with much under way", Setups::underWay,
            "link(0, 9, 7) = NONE", "link(0, 9, 12) = NONE", "link(12, 9, 1) = NONE", "link(0, 2, 1) = EXISTS",
            "link(6, 3, 1) = EXISTS");
    }

    private static void remove() {
        Refused.changesNothing("NONE", Setups::underWay,
            "remove(0, 9) = NONE", "remove(0, 3) = NONE", "remove(6, 1) = NONE", "remove(1, 1) = NONE",
            "remove(-1, 1) = NONE", "remove(18, 1) = NONE", "remove(12, 1) = NONE", "remove(0, 0) = NONE",
            "remove(0, -1) = NONE", "remove(0, 1000) = NONE", "remove(MIN, 1) = NONE", "remove(MAX, 1) = NONE",
            "remove(0, MIN) = NONE", "remove(0, MAX) = NONE");
        Refused.changesNothing("BUSY with one entry", Setups::underWay, "remove(0, 1) = BUSY");
        Refused.changesNothing("BUSY with eight entries",
            () -> and(Setups.after("create(0, 1, true) = 6", "create(6, 1, false) = 7"),
                "link(6, 2, 7) = 2", "link(6, 3, 7) = 3", "link(6, 4, 7) = 4", "link(6, 5, 7) = 5", "link(6, 6, 7) = 6",
                "link(6, 7, 7) = 7", "link(6, 8, 7) = 8", "flush(13) = 1"),
            "remove(0, 1) = BUSY");
        Refused.changesNothing("BUSY with an entry in the last cell alone",
            () -> and(Setups.after("create(0, 1, true) = 6", "create(6, 1, false) = 7"),
                "link(6, 2, 7) = 2", "link(6, 3, 7) = 3", "link(6, 4, 7) = 4", "link(6, 5, 7) = 5", "link(6, 6, 7) = 6",
                "link(6, 7, 7) = 7", "link(6, 8, 7) = 8", "remove(6, 1) = 7", "remove(6, 2) = 7", "remove(6, 3) = 7",
                "remove(6, 4) = 7", "remove(6, 5) = 7", "remove(6, 6) = 7", "remove(6, 7) = 7", "cached(14, 7) = 263"),
            "remove(0, 1) = BUSY");
    }

    /** Directory 6 has seven entries, but no place; directory 12 in it has one entry. */
    private static OrderedVolume noPlaceBelow() {
        return Setups.after("create(0, 1, true) = 6", "create(6, 1, true) = 12", "create(12, 1, false) = 13",
            "link(6, 2, 13) = 2", "link(6, 3, 13) = 3", "link(6, 4, 13) = 4", "link(6, 5, 13) = 5", "link(6, 6, 13) = 6",
            "link(6, 7, 13) = 7", "link(6, 8, 13) = 8", "sync() = 3", "remove(6, 8) = 13", "create(0, 2, false) = 1");
    }

    private static void rename() {
        Refused.changesNothing("NONE before all else", Setups::fullRoot,
            "rename(0, 9, 0, 10) = NONE", "rename(0, 9, 0, 1) = NONE", "rename(0, 0, 0, 1) = NONE",
            "rename(0, 1000, 0, 1) = NONE", "rename(0, -1, 0, 1) = NONE", "rename(0, 1, 0, 0) = NONE",
            "rename(0, 1, 0, 1000) = NONE", "rename(0, 1, 0, -1) = NONE", "rename(0, 1, 1, 1) = NONE",
            "rename(0, 1, 13, 1) = NONE", "rename(0, 1, -1, 1) = NONE", "rename(0, 1, 18, 1) = NONE",
            "rename(1, 1, 0, 1) = NONE", "rename(13, 1, 0, 1) = NONE", "rename(-1, 1, 0, 1) = NONE",
            "rename(18, 1, 0, 1) = NONE", "rename(MIN, 1, 0, 1) = NONE", "rename(0, 1, MAX, 1) = NONE",
            "rename(0, MAX, 0, 1) = NONE", "rename(0, 1, 0, MIN) = NONE", "rename(0, 8, 12, 0) = NONE",
            "rename(12, 1, 0, 1) = NONE");
        Refused.changesNothing("EXISTS before BUSY and FULL", Setups::fullRoot,
            "rename(0, 1, 0, 2) = EXISTS", "rename(0, 1, 0, 1) = EXISTS", "rename(0, 8, 0, 8) = EXISTS",
            "rename(0, 8, 0, 1) = EXISTS");
        Refused.changesNothing("FULL, also when e is d, without a SYNC", Setups::fullRoot,
            "rename(0, 1, 0, 9) = FULL", "rename(0, 8, 0, 9) = FULL");
        Refused.changesNothing("BUSY", Setups::fullRoot, "rename(0, 8, 12, 1) = BUSY");
        Refused.changesNothing("EXISTS before BUSY, without a SYNC", RefusalsTest::noPlaceBelow,
            "rename(0, 1, 6, 1) = EXISTS", "rename(0, 1, 6, 7) = EXISTS", "rename(0, 1, 12, 1) = EXISTS",
            "rename(0, 2, 6, 7) = EXISTS", "rename(6, 1, 12, 1) = EXISTS");
        Refused.changesNothing("BUSY without a SYNC, though there is no place", RefusalsTest::noPlaceBelow,
            "rename(0, 1, 6, 8) = BUSY", "rename(0, 1, 6, 9) = BUSY", "rename(0, 1, 12, 9) = BUSY",
            "rename(6, 1, 12, 9) = BUSY");
        Refused.changesNothing("NONE without a SYNC, though there is no place", RefusalsTest::noPlaceBelow,
            "rename(0, 9, 6, 9) = NONE", "rename(0, 2, 6, 1000) = NONE", "rename(0, 2, 6, 0) = NONE",
            "rename(6, 8, 6, 9) = NONE", "rename(13, 1, 6, 9) = NONE");
        Supplier<OrderedVolume> fullBelow = () -> and(noPlaceBelow(), "flush(25) = 0", "flush(14) = 0",
            "link(6, 9, 13) = 8");
        Refused.changesNothing("BUSY before FULL", fullBelow,
            "rename(0, 1, 6, 10) = BUSY", "rename(0, 1, 6, 9) = EXISTS", "rename(0, 2, 6, 10) = FULL",
            "rename(6, 1, 6, 10) = FULL", "rename(6, 9, 6, 8) = FULL");
        Refused.changesNothing("with much under way", Setups::underWay,
            "rename(0, 3, 0, 9) = NONE", "rename(6, 1, 0, 9) = NONE", "rename(0, 2, 12, 9) = NONE",
            "rename(0, 2, 6, 3) = EXISTS", "rename(0, 1, 6, 9) = BUSY", "rename(0, 1, 6, 3) = EXISTS");
        Calls.run("a file is never BUSY, whatever its words are",
            "create(0, 1, false) = 1", "write(1, 0, 38) = 3", "create(0, 2, true) = 6", "rename(0, 1, 6, 1) = 1");
        Calls.run("a SYNC first when there is no place, and the rename is then made",
            "create(0, 1, true) = 6", "create(6, 1, false) = 7", "link(6, 2, 7) = 2", "link(6, 3, 7) = 3",
            "link(6, 4, 7) = 4", "link(6, 5, 7) = 5", "link(6, 6, 7) = 6", "link(6, 7, 7) = 7", "link(6, 8, 7) = 8",
            "sync() = 3", "remove(6, 8) = 7", "create(0, 2, true) = 12", "rename(0, 2, 6, 8) = 12", "image(2, 1) = 76",
            "cached(2, 1) = 0", "image(14, 7) = 0", "cached(14, 7) = 268", "crash() = false");
    }

    private static void write() {
        Refused.changesNothing("NONE, without a SYNC, though no block is free",
            () -> and(Setups.everyBlock(), "create(12, 3, false) = 15"),
            "write(15, 24, 1) = NONE", "write(15, -1, 1) = NONE", "write(15, MIN, 1) = NONE", "write(15, MAX, 1) = NONE",
            "write(6, 0, 1) = NONE", "write(0, 0, 1) = NONE", "write(16, 0, 1) = NONE", "write(-1, 0, 1) = NONE",
            "write(18, 0, 1) = NONE", "write(MAX, 0, 1) = NONE", "write(MIN, 0, 1) = NONE");
        Refused.changesBySyncAlone("FULL when none is free, after a SYNC",
            () -> and(Setups.everyBlock(), "create(12, 3, false) = 15"),
            "write(15, 0, 1) = FULL", "write(15, 8, 1) = FULL", "write(15, 23, 1) = FULL");
        Refused.changesNothing("with much under way", Setups::underWay,
            "write(7, 0, 1) = NONE", "write(12, 0, 1) = NONE", "write(1, 24, 1) = NONE", "write(1, -1, 1) = NONE");
        Calls.on(and(Setups.everyBlock(), "create(12, 3, false) = 15"), "no SYNC when the pointer is there",
            "write(1, 23, 7) = 5", "write(1, 23, 8) = 5", "image(0, 1) = 0", "read(1, 23) = 8");
    }

    private static void cutAndFlush() {
        Refused.changesNothing("cut", Setups::underWay,
            "cut(1, -1) = NONE", "cut(1, 4) = NONE", "cut(1, MIN) = NONE", "cut(1, MAX) = NONE", "cut(0, 0) = NONE",
            "cut(6, 0) = NONE", "cut(7, 0) = NONE", "cut(12, 0) = NONE", "cut(-1, 0) = NONE", "cut(18, 0) = NONE",
            "cut(1, 3) = 0", "cut(1, 2) = 0", "cut(8, 0) = 0");
        Refused.changesNothing("flush", Setups::underWay,
            "flush(-1) = NONE", "flush(36) = NONE", "flush(MIN) = NONE", "flush(MAX) = NONE", "flush(48) = NONE",
            "flush(35) = 0", "flush(3) = 0", "flush(15) = 0");
    }

    private static void crash() {
        Refused.changesNothing("crash, when a directory has been renamed",
            () -> and(Setups.underWay(), "rename(0, 1, 0, 9) = 6"), "crash() = false");
    }

    private static void onlyLooking() {
        Refused.changesNothing("calls that only look", Setups::underWay,
            "read(1, 8) = 5", "read(1, 0) = 0", "read(1, 24) = 0", "read(1, -1) = 0", "read(7, 0) = 0", "read(18, 0) = 0",
            "lookup(0, 1) = 6", "lookup(0, 3) = NONE", "lookup(7, 1) = NONE", "lookup(-1, 1) = NONE",
            "defects(-1) = NONE", "defects(6) = NONE", "defects(MIN) = NONE", "defects(MAX) = NONE", "defects(0) = 0",
            "defects(1) = 0", "defects(2) = 1", "defects(3) = 1", "defects(4) = 0", "defects(5) = 0",
            "image(36, 0) = 0", "image(0, 16) = 0", "image(3, 0) = 7", "cached(36, 0) = 0", "cached(1, 30) = 0",
            "cached(5, 0) = 5");
    }
}
