/** Promise 15: image. */
public final class Promise15ImageTest {
    public static void main(String[] args) {
        Calls.run("the cells of each block",
            "create(0, 1, true) = 6", "create(6, 5, false) = 7", "write(7, 7, -9) = 15", "image(12, 0) = 0",
            "sync() = 3", "image(12, 0) = 1", "image(12, 1) = 1", "image(12, 6) = 1", "image(12, 7) = 1",
            "image(12, 8) = 0", "image(13, 0) = 2", "image(13, 1) = 1", "image(13, 2) = 14", "image(13, 5) = 1",
            "image(13, 6) = 1", "image(13, 7) = 15", "image(14, 0) = 167", "image(15, 7) = -9", "image(2, 0) = 38");
        Calls.run("0 when there is none",
            "image(-1, 0) = 0", "image(36, 0) = 0", "image(MIN, 0) = 0", "image(MAX, 0) = 0", "image(0, -1) = 0",
            "image(0, 16) = 0", "image(1, 30) = 0", "image(1, -1) = 0", "image(2, 8) = 0", "image(2, -1) = 0",
            "image(0, MAX) = 0", "image(1, MIN) = 0", "image(35, 8) = 0");
        Calls.run("no cell of the next block beyond the last one",
            "create(0, 1, false) = 1", "write(1, 0, 5) = 3", "sync() = 2", "image(2, 8) = 0", "image(3, 0) = 5",
            "image(4, -8) = 0");
        Calls.run("a FRESH block as it stands",
            "create(0, 1, false) = 1", "write(1, 0, 5) = 3", "sync() = 2", "cut(1, 0) = 1", "flush(1) = 0",
            "write(1, 0, 6) = 3", "image(3, 0) = 5", "flush(3) = 0", "image(3, 0) = 6");
        Calls.on(Setups.everyBlock(), "the last cell of a MAP and of a DATA block",
            "write(14, 23, 9) = 35", "image(24, 15) = 0", "sync() = 3",
            "image(24, 15) = 1", "image(0, 15) = 1", "image(24, 16) = 0", "image(35, 7) = 9");
        Calls.on(Setups.everyInode(), "the last cell of a TABLE",
            "write(5, 16, 1) = 3", "image(1, 29) = 0", "sync() = 3",
            "image(1, 29) = 3", "image(1, 30) = 0", "image(24, 5) = 1", "image(25, 25) = 1", "image(25, 29) = 0");
        Due.end();
    }
}
