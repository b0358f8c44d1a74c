import java.util.function.Supplier;

/** Refused calls: an object that made one and a twin that did not must be the same from then on. */
final class Refused {
    private static final int AFTERMATHS = 7;

    private Refused() {
    }

    /** Each row, on an object of its own, answers as it says and changes nothing. */
    static void changesNothing(String title, Supplier<OrderedVolume> setup, String... rows) {
        for (String row : rows) {
            for (int aftermath = 0; aftermath < AFTERMATHS; aftermath++) {
                OrderedVolume twin = setup.get();
                compare(title, setup, row, twin, aftermath);
            }
        }
    }

    /** Each row, on an object of its own, answers as it says and changes what a SYNC changes. */
    static void changesBySyncAlone(String title, Supplier<OrderedVolume> setup, String... rows) {
        for (String row : rows) {
            for (int aftermath = 0; aftermath < AFTERMATHS; aftermath++) {
                OrderedVolume twin = setup.get();
                Due.is(title + ": there is something to SYNC", twin.sync() > 0, true);
                compare(title, setup, row, twin, aftermath);
            }
        }
    }

    private static void compare(String title, Supplier<OrderedVolume> setup, String row, OrderedVolume twin,
            int aftermath) {
        OrderedVolume volume = setup.get();
        Calls.on(volume, title, row);
        String where = title + ", " + row;
        same(where, volume, twin);
        goOn(where + ", aftermath " + aftermath, volume, twin, aftermath);
    }

    /** What is FRESH, YOUNG, DROPPED or RELEASED, and what is still to fall, is seen by going on. */
    private static void goOn(String where, OrderedVolume volume, OrderedVolume twin, int aftermath) {
        switch (aftermath) {
            case 0 -> flushUp(where, volume, twin);
            case 1 -> flushDown(where, volume, twin);
            case 2 -> Due.is(where + ": sync()", volume.sync(), twin.sync());
            case 3 -> Due.is(where + ": crash()", volume.crash(), twin.crash());
            case 4 -> Due.is(where + ": reclaim()", volume.reclaim(), twin.reclaim());
            case 5 -> takeAll(where, volume, twin);
            default -> removeAll(where, volume, twin);
        }
        same(where, volume, twin);
        Due.is(where + ": sync()", volume.sync(), twin.sync());
        same(where, volume, twin);
    }

    private static void flushUp(String where, OrderedVolume volume, OrderedVolume twin) {
        for (int b = 0; b < 36; b++) {
            Due.is(where + ": flush(" + b + ")", volume.flush(b), twin.flush(b));
            same(where + ": flush(" + b + ")", volume, twin);
        }
    }

    private static void flushDown(String where, OrderedVolume volume, OrderedVolume twin) {
        for (int b = 35; b >= 0; b--) {
            Due.is(where + ": flush(" + b + ")", volume.flush(b), twin.flush(b));
            same(where + ": flush(" + b + ")", volume, twin);
        }
    }

    private static void takeAll(String where, OrderedVolume volume, OrderedVolume twin) {
        for (int n = 0; n < 6; n++) {
            Due.is(where + ": create", volume.create(0, 501 + n, n % 2 == 0), twin.create(0, 501 + n, n % 2 == 0));
            for (int i = 0; i < 18; i++) {
                Due.is(where + ": write", volume.write(i, 8 * (n % 3), n), twin.write(i, 8 * (n % 3), n));
            }
        }
    }

    private static void removeAll(String where, OrderedVolume volume, OrderedVolume twin) {
        for (int d = 17; d >= 0; d--) {
            for (int name = 1; name < 10; name++) {
                Due.is(where + ": remove", volume.remove(d, name), twin.remove(d, name));
            }
        }
    }

    /** The program counts no calls, so the comparison may look at every cell. */
    static void same(String where, OrderedVolume volume, OrderedVolume twin) {
        for (int b = 0; b < 36; b++) {
            int cells = b % 12 == 0 ? 16 : b % 12 == 1 ? 30 : 8;
            for (int c = 0; c < cells; c++) {
                if (volume.image(b, c) != twin.image(b, c) || volume.cached(b, c) != twin.cached(b, c)) {
                    Due.is(where + ": image(" + b + ", " + c + ")", volume.image(b, c), twin.image(b, c));
                    Due.is(where + ": cached(" + b + ", " + c + ")", volume.cached(b, c), twin.cached(b, c));
                }
            }
        }
    }
}
