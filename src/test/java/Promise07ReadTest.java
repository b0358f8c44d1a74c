/** Promise 7: read. */
public final class Promise07ReadTest {
    public static void main(String[] args) {
        Calls.run("words of a file",
            "create(0, 1, false) = 1", "read(1, 0) = 0", "write(1, 9, 77) = 3", "read(1, 9) = 77",
            "read(1, 8) = 0", "read(1, 1) = 0", "read(1, 17) = 0", "write(1, 9, -3) = 3", "read(1, 9) = -3",
            "write(1, 23, 5) = 4", "read(1, 23) = 5", "cut(1, 2) = 1", "read(1, 23) = 0", "read(1, 9) = -3");
        Calls.run("0 when there is none",
            "create(0, 1, true) = 6", "create(6, 1, false) = 7", "write(7, 0, 5) = 15", "read(7, 0) = 5",
            "read(7, -1) = 0", "read(7, 24) = 0", "read(7, MIN) = 0", "read(7, MAX) = 0", "read(6, 0) = 0",
            "read(0, 0) = 0", "read(-1, 0) = 0", "read(18, 0) = 0", "read(MAX, 0) = 0", "read(MIN, 0) = 0",
            "sync() = 3", "remove(6, 1) = 7", "cached(15, 0) = 5", "cached(13, 5) = 1", "read(7, 0) = 0");
        Calls.run("what is in memory, not on the disk",
            "create(0, 1, false) = 1", "write(1, 0, 5) = 3", "sync() = 2", "write(1, 0, 6) = 3", "read(1, 0) = 6",
            "image(3, 0) = 5", "crash() = true", "read(1, 0) = 5");
        Calls.run("no word beyond the last one, whatever stands behind the pointers of the file",
            "create(0, 1, false) = 1", "create(0, 2, true) = 6", "create(0, 3, true) = 12", "create(0, 4, true) = 7",
            "create(0, 5, true) = 13", "create(0, 6, true) = 2", "cached(1, 10) = 2", "cached(2, 0) = 33",
            "read(1, 24) = 0", "read(1, 25) = 0", "read(1, 31) = 0", "read(1, -1) = 0", "read(1, -8) = 0");
        Due.end();
    }
}
