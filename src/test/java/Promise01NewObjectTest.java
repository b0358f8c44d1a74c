/** Promise 1: memory and disk as they are at first. */
public final class Promise01NewObjectTest {
    public static void main(String[] args) {
        everyCell();
        Calls.run("a new object is in order",
            "sync() = 0", "defects(0) = 0", "defects(1) = 0", "defects(2) = 0", "defects(3) = 0",
            "defects(4) = 0", "defects(5) = 0", "lookup(0, 1) = NONE", "reclaim() = 0", "crash() = true",
            "sync() = 0", "create(0, 1, false) = 1");
        Calls.run("no directory has been renamed since the beginning", "crash() = true", "sync() = 0");
        apart();
        Due.end();
    }

    private static void everyCell() {
        OrderedVolume volume = new OrderedVolume();
        for (int b = 0; b < 36; b++) {
            for (int c = 0; c < 30; c++) {
                int want = b == 0 && (c == 0 || c == 6) ? 1 : b != 1 ? 0 : c == 0 ? 2 : c == 1 ? 1 : c == 2 ? 2 : 0;
                Due.is("image(" + b + ", " + c + ")", volume.image(b, c), want);
                Due.is("cached(" + b + ", " + c + ")", volume.cached(b, c), want);
            }
        }
    }

    private static void apart() {
        OrderedVolume one = new OrderedVolume();
        OrderedVolume other = new OrderedVolume();
        Calls.on(one, "one of two", "create(0, 1, false) = 1", "write(1, 0, 5) = 3", "sync() = 2");
        Calls.on(other, "the other of two", "lookup(0, 1) = NONE", "cached(0, 1) = 0", "image(3, 0) = 0");
    }
}
