import java.util.List;
import java.util.Random;

/** Many runs of random calls, each answer and each cell compared with those of PlainVolume. */
public final class RandomRunsTest {
    private static final int RUNS = Integer.getInteger("runs", 500);
    private static final int CALLS = 512;
    private static int mostPasses = 0;
    private static final int[] answers = new int[17 * 6];

    public static void main(String[] args) {
        for (int seed = 1; seed <= RUNS; seed++) {
            run(seed);
        }
        if (args.length > 0) {
            report();
        }
        Due.end();
    }

    private static void report() {
        System.out.println("most passes of a SYNC: " + mostPasses);
        for (int call = 1; call <= 15; call++) {
            StringBuilder line = new StringBuilder("call " + call + ":");
            for (int n = 0; n < 6; n++) {
                line.append(' ').append(n == 5 ? ">=0" : n == 4 ? "" : -n).append('=').append(answers[call * 6 + n]);
            }
            System.out.println(line);
        }
    }

    private static void run(int seed) {
        Random random = new Random(seed);
        OrderedVolume volume = new OrderedVolume();
        PlainVolume plain = new PlainVolume();
        int style = seed % 6;
        for (int n = 0; n < CALLS; n++) {
            int call = pick(random, style);
            long got = 0;
            long want = 0;
            boolean onFile = call == 5 || call == 6 || call == 7;
            int d = inode(random, plain, onFile ? 1 : 2);
            int e = inode(random, plain, call == 2 ? 1 : 2);
            int name = call == 3 || call == 4 || call == 8 ? usedName(random, style, plain, d) : name(random, style);
            int other = name(random, style);
            String text;
            switch (call) {
                case 1: {
                    boolean directory = random.nextInt(style == 3 ? 2 : 3) == 0;
                    text = "create(" + d + ", " + name + ", " + directory + ")";
                    got = volume.create(d, name, directory);
                    want = plain.create(d, name, directory);
                    break;
                }
                case 2:
                    text = "link(" + d + ", " + name + ", " + e + ")";
                    got = volume.link(d, name, e);
                    want = plain.link(d, name, e);
                    break;
                case 3:
                    text = "remove(" + d + ", " + name + ")";
                    got = volume.remove(d, name);
                    want = plain.remove(d, name);
                    break;
                case 4:
                    text = "rename(" + d + ", " + name + ", " + e + ", " + other + ")";
                    got = volume.rename(d, name, e, other);
                    want = plain.rename(d, name, e, other);
                    break;
                case 5: {
                    int w = random.nextInt(40) == 0 ? random.nextInt(60) - 20 : random.nextInt(24);
                    int v = random.nextInt(4) == 0 ? 32 * random.nextInt(10) + 5 : random.nextInt();
                    text = "write(" + d + ", " + w + ", " + v + ")";
                    got = volume.write(d, w, v);
                    want = plain.write(d, w, v);
                    break;
                }
                case 6: {
                    int w = random.nextInt(28) - 2;
                    text = "read(" + d + ", " + w + ")";
                    got = volume.read(d, w);
                    want = plain.read(d, w);
                    break;
                }
                case 7: {
                    int k = random.nextInt(20) == 0 ? random.nextInt(9) - 3 : random.nextInt(3);
                    text = "cut(" + d + ", " + k + ")";
                    got = volume.cut(d, k);
                    want = plain.cut(d, k);
                    break;
                }
                case 8:
                    text = "lookup(" + d + ", " + name + ")";
                    got = volume.lookup(d, name);
                    want = plain.lookup(d, name);
                    break;
                case 9: {
                    int b = random.nextInt(30) == 0 ? random.nextInt(60) - 12
                        : random.nextInt(2) == 0 ? random.nextInt(3) * 12 + random.nextInt(3) : random.nextInt(36);
                    text = "flush(" + b + ")";
                    got = volume.flush(b);
                    want = plain.flush(b);
                    break;
                }
                case 10:
                    text = "sync()";
                    got = volume.sync();
                    want = plain.sync();
                    break;
                case 11:
                    text = "crash()";
                    got = volume.crash() ? 1 : 0;
                    want = plain.crash() ? 1 : 0;
                    break;
                case 12:
                    text = "reclaim()";
                    got = volume.reclaim();
                    want = plain.reclaim();
                    break;
                default: {
                    int kind = random.nextInt(8) - 1;
                    text = "defects(" + kind + ")";
                    got = volume.defects(kind);
                    want = plain.defects(kind);
                    break;
                }
            }
            String where = "seed " + seed + ", call " + n + ": " + text;
            Due.is(where, got, want);
            answers[call * 6 + (got >= 0 || got < -4 ? 5 : (int) -got)]++;
            if (got != want || !sameCells(volume, plain, where) || !sound(volume, plain, where)) {
                return;
            }
        }
        mostPasses = Math.max(mostPasses, plain.mostPasses);
    }

    private static int pick(Random random, int style) {
        int n = random.nextInt(100);
        if (style == 0) {
            return n < 20 ? 1 : n < 28 ? 2 : n < 40 ? 3 : n < 50 ? 4 : n < 65 ? 5 : n < 68 ? 6 : n < 71 ? 7
                : n < 73 ? 8 : n < 95 ? 9 : n < 96 ? 10 : n < 97 ? 11 : n < 98 ? 12 : 13;
        }
        if (style == 1) {
            return n < 25 ? 1 : n < 35 ? 2 : n < 50 ? 3 : n < 60 ? 4 : n < 80 ? 5 : n < 82 ? 7 : n < 99 ? 9 : 13;
        }
        if (style == 2) {
            return n < 10 ? 1 : n < 20 ? 2 : n < 30 ? 3 : n < 40 ? 4 : n < 45 ? 5 : n < 48 ? 7 : n < 92 ? 9 : n < 97 ? 11 : 13;
        }
        if (style == 3) {
            return n < 20 ? 1 : n < 35 ? 3 : n < 65 ? 4 : n < 98 ? 9 : n < 99 ? 10 : 13;
        }
        if (style == 4) {
            return n < 30 ? 1 : n < 65 ? 3 : n < 70 ? 4 : n < 80 ? 5 : n < 97 ? 9 : n < 98 ? 10 : n < 99 ? 11 : 12;
        }
        return n < 15 ? 1 : n < 25 ? 2 : n < 28 ? 3 : n < 35 ? 4 : n < 75 ? 5 : n < 80 ? 7 : n < 99 ? 9 : 11;
    }

    /** Mostly an inode of the tree of that KIND, at times any number. */
    private static int inode(Random random, PlainVolume plain, int kind) {
        int n = random.nextInt(40);
        List<Integer> some = plain.inodes(kind);
        return n == 0 ? random.nextInt(40) - 10
            : n < 4 || some.isEmpty() ? random.nextInt(18) : some.get(random.nextInt(some.size()));
    }

    private static int usedName(Random random, int style, PlainVolume plain, int d) {
        List<Integer> used = plain.names(d);
        boolean any = used.isEmpty() || random.nextInt(10) == 0;
        return any ? name(random, style) : used.get(random.nextInt(used.size()));
    }

    private static int name(Random random, int style) {
        int n = random.nextInt(80);
        return n == 0 ? random.nextInt(2200) - 600 : n == 1 ? 0 : n == 2 ? 1000 : n == 3 ? 999
            : 1 + random.nextInt(style == 4 ? 4 : 12);
    }

    private static boolean sameCells(OrderedVolume volume, PlainVolume plain, String where) {
        for (int b = -1; b <= 36; b++) {
            for (int c = -1; c <= 30; c++) {
                int image = volume.image(b, c);
                int cached = volume.cached(b, c);
                if (image != plain.image(b, c) || cached != plain.cached(b, c)) {
                    Due.is(where + ", then image(" + b + ", " + c + ")", image, plain.image(b, c));
                    Due.is(where + ", then cached(" + b + ", " + c + ")", cached, plain.cached(b, c));
                    return false;
                }
            }
        }
        return true;
    }

    /** What the order of writing back is for: no defect but too many marks and too high counts. */
    private static boolean sound(OrderedVolume volume, PlainVolume plain, String where) {
        boolean sound = true;
        for (int kind = 0; kind <= 5; kind++) {
            int got = volume.defects(kind);
            Due.is(where + ", then defects(" + kind + ")", got, plain.defects(kind));
            boolean never = kind < 2 || kind == 5;
            if (never) {
                Due.is(where + ", then defects(" + kind + ")", got, 0);
            }
            sound &= got == plain.defects(kind) && (!never || got == 0);
        }
        return sound;
    }
}
