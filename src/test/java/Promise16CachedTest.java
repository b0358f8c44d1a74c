/** Promise 16: cached. */
public final class Promise16CachedTest {
    public static void main(String[] args) {
        Calls.run("the cells of each block",
            "create(0, 1, true) = 6", "create(6, 5, false) = 7", "write(7, 7, -9) = 15", "cached(12, 0) = 1",
            "cached(12, 1) = 1", "cached(12, 6) = 1", "cached(12, 7) = 1", "cached(12, 8) = 0", "cached(13, 0) = 2",
            "cached(13, 1) = 1", "cached(13, 2) = 14", "cached(13, 5) = 1", "cached(13, 6) = 1",
            "cached(13, 7) = 15", "cached(14, 0) = 167", "cached(15, 7) = -9", "cached(2, 0) = 38",
            "create(0, 2, true) = 12", "cached(24, 0) = 1", "cached(24, 6) = 1", "cached(25, 2) = 26");
        Calls.run("0 when there is none",
            "cached(-1, 0) = 0", "cached(36, 0) = 0", "cached(MIN, 0) = 0", "cached(MAX, 0) = 0",
            "cached(0, -1) = 0", "cached(0, 16) = 0", "cached(1, 30) = 0", "cached(1, -1) = 0", "cached(2, 8) = 0",
            "cached(2, -1) = 0", "cached(0, MAX) = 0", "cached(1, MIN) = 0", "cached(35, 8) = 0");
        Calls.run("no cell of the next block beyond the last one",
            "create(0, 1, false) = 1", "write(1, 0, 5) = 3", "cached(2, 8) = 0", "cached(4, -8) = 0",
            "cached(3, 0) = 5");
        Calls.run("a dropped or freed block keeps its cells until it is taken again",
            "create(0, 1, false) = 1", "write(1, 0, 5) = 3", "sync() = 2", "cut(1, 0) = 1", "cached(3, 0) = 5",
            "flush(1) = 0", "cached(0, 7) = 0", "cached(3, 0) = 5", "write(1, 1, 6) = 3", "cached(3, 0) = 0",
            "cached(3, 1) = 6", "image(3, 0) = 5", "image(3, 1) = 0");
        Calls.on(Setups.everyBlock(), "the last cell of a MAP and of a DATA block",
            "write(14, 23, 9) = 35",
            "cached(24, 15) = 1", "cached(0, 15) = 1", "cached(24, 16) = 0", "cached(35, 7) = 9");
        Calls.on(Setups.everyInode(), "the last cell of a TABLE",
            "write(5, 16, 1) = 3",
            "cached(1, 29) = 3", "cached(1, 30) = 0", "cached(24, 5) = 1", "cached(25, 25) = 1", "cached(25, 29) = 0");
        Due.end();
    }
}
