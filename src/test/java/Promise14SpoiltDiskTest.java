import java.lang.reflect.Field;
import java.lang.reflect.Method;

/**
 * Promise 14, the kinds 0, 1 and 5: the order of writing back keeps them at 0 in every run of calls,
 * so this test alone reaches inside and spoils cells of the disk to see them counted.
 */
public final class Promise14SpoiltDiskTest {
    public static void main(String[] args) throws ReflectiveOperationException {
        entries();
        pointers();
        shared();
        links();
        Due.end();
    }

    private static void spoil(OrderedVolume volume, int b, int c, int v) throws ReflectiveOperationException {
        Field disk = OrderedVolume.class.getDeclaredField("disk");
        disk.setAccessible(true);
        Object store = disk.get(volume);
        Method setCell = store.getClass().getDeclaredMethod("setCell", int.class, int.class, int.class);
        setCell.setAccessible(true);
        setCell.invoke(store, b, c, v);
        Due.is("spoilt image(" + b + ", " + c + ")", volume.image(b, c), v);
    }

    /** Directory 6 with file 7 in it, files 1 and 2 in the root, one with three blocks; all on the disk. */
    private static OrderedVolume sound() {
        return Setups.after("create(0, 1, true) = 6", "create(6, 1, false) = 7", "write(7, 0, 1) = 15",
            "create(0, 2, false) = 1", "write(1, 0, 1) = 3", "write(1, 8, 1) = 4", "write(1, 16, 1) = 5",
            "create(0, 3, false) = 2", "write(2, 0, 1) = 6", "sync() = 3", "defects(0) = 0", "defects(1) = 0",
            "defects(2) = 0", "defects(3) = 0", "defects(4) = 0", "defects(5) = 0");
    }

    private static void entries() throws ReflectiveOperationException {
        OrderedVolume volume = sound();
        spoil(volume, 1, 5, 0);
        Calls.on(volume, "0: an entry that names an inode whose KIND is 0", "defects(0) = 1", "defects(3) = 0");
        volume = sound();
        spoil(volume, 0, 1, 0);
        Calls.on(volume, "0: or whose mark is 0", "defects(0) = 1", "defects(3) = 0");
        spoil(volume, 1, 5, 0);
        Calls.on(volume, "0: both, but one entry", "defects(0) = 1");
        spoil(volume, 2, 7, 32 * 9 + 1);
        Calls.on(volume, "0: two entries, in the last cell too", "defects(0) = 2");
        spoil(volume, 14, 3, 32 * 9 + 1);
        Calls.on(volume, "0: and one of another directory of T", "defects(0) = 3");
        spoil(volume, 2, 0, 0);
        Calls.on(volume, "0: but not of a directory that is not in T", "defects(0) = 2");
        volume = sound();
        spoil(volume, 2, 7, 32 * 9 + 17);
        Calls.on(volume, "0: the last inode", "defects(0) = 1");
        volume = sound();
        spoil(volume, 0, 0, 0);
        Calls.on(volume, "0: no entry names the root", "defects(0) = 0");
    }

    private static void pointers() throws ReflectiveOperationException {
        OrderedVolume volume = sound();
        spoil(volume, 0, 7, 0);
        Calls.on(volume, "0: a pointer that names a block whose mark is 0", "defects(0) = 1");
        spoil(volume, 0, 8, 0);
        spoil(volume, 0, 9, 0);
        Calls.on(volume, "0: all three pointers of an inode", "defects(0) = 3");
        spoil(volume, 0, 6, 0);
        Calls.on(volume, "0: the root's own", "defects(0) = 4");
        spoil(volume, 1, 5, 0);
        Calls.on(volume, "0: entries and pointers together", "defects(0) = 5");
        spoil(volume, 2, 1, 0);
        Calls.on(volume, "0: not of an inode that is not in T", "defects(0) = 1");
        volume = sound();
        spoil(volume, 1, 13, 35);
        Calls.on(volume, "0: the last block", "defects(0) = 1");
        spoil(volume, 24, 15, 1);
        Calls.on(volume, "0: the last block with its mark", "defects(0) = 0");
    }

    private static void shared() throws ReflectiveOperationException {
        OrderedVolume volume = sound();
        spoil(volume, 1, 12, 3);
        Calls.on(volume, "1: a block that more than one pointer names", "defects(1) = 1", "defects(2) = 1");
        spoil(volume, 1, 13, 3);
        Calls.on(volume, "1: three pointers, but one block", "defects(1) = 1");
        spoil(volume, 1, 14, 5);
        Calls.on(volume, "1: two blocks", "defects(1) = 2");
        spoil(volume, 2, 2, 0);
        Calls.on(volume, "1: only pointers of inodes of T", "defects(1) = 0");
        volume = sound();
        spoil(volume, 13, 8, 35);
        spoil(volume, 13, 9, 35);
        Calls.on(volume, "1: the last block", "defects(1) = 1", "defects(0) = 2");
    }

    private static void links() throws ReflectiveOperationException {
        OrderedVolume volume = sound();
        spoil(volume, 1, 6, 0);
        Calls.on(volume, "5: LINKS that are less by one", "defects(5) = 1", "defects(4) = 0");
        spoil(volume, 13, 1, -1);
        Calls.on(volume, "5: a directory's, less by two", "defects(5) = 2", "defects(4) = 0");
        spoil(volume, 1, 11, 2);
        Calls.on(volume, "4 and 5 beside each other", "defects(5) = 2", "defects(4) = 1");
        spoil(volume, 1, 1, -1);
        Calls.on(volume, "5: not the root", "defects(5) = 2");
        spoil(volume, 1, 1, 9);
        Calls.on(volume, "4: not the root", "defects(4) = 1");
        volume = sound();
        spoil(volume, 2, 7, 32 * 9 + 17);
        Calls.on(volume, "5: the last inode", "defects(5) = 1");
        spoil(volume, 25, 26, 1);
        Calls.on(volume, "5: as many is not less", "defects(5) = 0", "defects(4) = 0");
    }
}
