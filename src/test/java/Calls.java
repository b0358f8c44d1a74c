import java.util.regex.Matcher;
import java.util.regex.Pattern;

/** Runs of calls written as rows like "create(0, 1, false) = 1", each on an object of its own. */
final class Calls {
    private static final Pattern ROW = Pattern.compile("(\\w+)\\(([^)]*)\\) = (\\S+)");

    private Calls() {
    }

    static void run(String title, String... rows) {
        on(new OrderedVolume(), title, rows);
    }

    static void on(OrderedVolume volume, String title, String... rows) {
        for (int n = 0; n < rows.length; n++) {
            Matcher row = ROW.matcher(rows[n]);
            if (!row.matches()) {
                throw new IllegalArgumentException(rows[n]);
            }
            String[] words = row.group(2).isEmpty() ? new String[0] : row.group(2).split(", ");
            int[] a = new int[words.length];
            for (int k = 0; k < words.length; k++) {
                a[k] = value(words[k]);
            }
            Due.is(title + ", row " + (n + 1) + ": " + row.group(1) + "(" + row.group(2) + ")",
                answer(volume, row.group(1), a), value(row.group(3)));
        }
    }

    private static int value(String word) {
        return switch (word) {
            case "NONE" -> -1;
            case "EXISTS" -> -2;
            case "FULL" -> -3;
            case "BUSY" -> -4;
            case "true" -> 1;
            case "false" -> 0;
            case "MIN" -> Integer.MIN_VALUE;
            case "MAX" -> Integer.MAX_VALUE;
            default -> Integer.parseInt(word);
        };
    }

    private static int answer(OrderedVolume volume, String call, int[] a) {
        return switch (call) {
            case "create" -> volume.create(a[0], a[1], a[2] == 1);
            case "link" -> volume.link(a[0], a[1], a[2]);
            case "remove" -> volume.remove(a[0], a[1]);
            case "rename" -> volume.rename(a[0], a[1], a[2], a[3]);
            case "write" -> volume.write(a[0], a[1], a[2]);
            case "read" -> volume.read(a[0], a[1]);
            case "cut" -> volume.cut(a[0], a[1]);
            case "lookup" -> volume.lookup(a[0], a[1]);
            case "flush" -> volume.flush(a[0]);
            case "sync" -> volume.sync();
            case "crash" -> volume.crash() ? 1 : 0;
            case "reclaim" -> volume.reclaim();
            case "defects" -> volume.defects(a[0]);
            case "image" -> volume.image(a[0], a[1]);
            case "cached" -> volume.cached(a[0], a[1]);
            default -> throw new IllegalArgumentException(call);
        };
    }
}
