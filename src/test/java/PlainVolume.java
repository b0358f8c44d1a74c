import java.util.ArrayDeque;
import java.util.ArrayList;
import java.util.HashMap;
import java.util.HashSet;
import java.util.List;
import java.util.Map;
import java.util.Set;
import java.util.TreeSet;

/**
 * The document told a second time, for comparison: it keeps a list of the falls that are due and
 * takes every step of giving back at once, where OrderedVolume reads them off memory and disk.
 */
final class PlainVolume {
    private record Place(int block, int cell) {
    }

    private final int[][] memory = new int[36][];
    private final int[][] disk = new int[36][];
    private final Set<Integer> fresh = new HashSet<>();
    private final Set<Place> young = new HashSet<>();
    private final Map<Place, Integer> fallsDue = new HashMap<>();
    private final Set<Integer> droppedOfFiles = new TreeSet<>();
    private final Set<Integer> droppedOfDirectories = new TreeSet<>();
    private final Set<Integer> released = new TreeSet<>();
    private boolean directoryRenamed = false;
    int mostPasses = 0;

    PlainVolume() {
        for (int b = 0; b < 36; b++) {
            int size = b % 12 == 0 ? 16 : b % 12 == 1 ? 30 : 8;
            memory[b] = new int[size];
            disk[b] = new int[size];
        }
        for (int[][] side : List.of(memory, disk)) {
            side[0][0] = 1;
            side[0][6] = 1;
            side[1][0] = 2;
            side[1][1] = 1;
            side[1][2] = 2;
        }
    }

    private static int kind(int[][] side, int i) {
        return side[i / 6 * 12 + 1][i % 6 * 5];
    }

    private static int pointer(int[][] side, int i, int k) {
        return side[i / 6 * 12 + 1][i % 6 * 5 + 2 + k];
    }

    private void point(int i, int k, int b) {
        memory[i / 6 * 12 + 1][i % 6 * 5 + 2 + k] = b;
    }

    private static int links(int[][] side, int i) {
        return side[i / 6 * 12 + 1][i % 6 * 5 + 1];
    }

    private static int inodeMark(int[][] side, int i) {
        return side[i / 6 * 12][i % 6];
    }

    private static int blockMark(int[][] side, int b) {
        return side[b / 12 * 12][b % 12 + 4];
    }

    private int diskCell(int b, int c) {
        return fresh.contains(b) ? 0 : disk[b][c];
    }

    private List<Integer> entries(int[][] side, int d) {
        List<Integer> found = new ArrayList<>();
        int b = pointer(side, d, 0);
        if (kind(side, d) != 2 || b == 0) {
            return found;
        }
        for (int c = 0; c < 8; c++) {
            int v = side == disk ? diskCell(b, c) : memory[b][c];
            if (v != 0) {
                found.add(v);
            }
        }
        return found;
    }

    private Set<Integer> below(int[][] side, int start) {
        Set<Integer> seen = new TreeSet<>();
        ArrayDeque<Integer> open = new ArrayDeque<>();
        open.add(start);
        while (!open.isEmpty()) {
            int i = open.remove();
            if (seen.add(i)) {
                for (int v : entries(side, i)) {
                    open.add(v % 32);
                }
            }
        }
        return seen;
    }

    private boolean inTree(int i, int kind) {
        return i >= 0 && i < 18 && kind(memory, i) == kind && below(memory, 0).contains(i);
    }

    private static boolean named(int name) {
        return name > 0 && name < 1000;
    }

    private Place find(int d, int name) {
        int b = pointer(memory, d, 0);
        for (int c = 0; c < 8 && b != 0 && named(name); c++) {
            if (memory[b][c] / 32 == name) {
                return new Place(b, c);
            }
        }
        return null;
    }

    private Place freePlace(int d) {
        int b = pointer(memory, d, 0);
        for (int c = 0; c < 8 && b != 0; c++) {
            if (memory[b][c] == 0 && diskCell(b, c) == 0) {
                return new Place(b, c);
            }
        }
        return null;
    }

    private List<Integer> freeInodes(int group) {
        List<Integer> free = new ArrayList<>();
        for (int i = 6 * group; i < 6 * group + 6; i++) {
            if (inodeMark(memory, i) == 0 && kind(memory, i) == 0) {
                free.add(i);
            }
        }
        return free;
    }

    private int inodeFor(int d, boolean directory) {
        int group = d / 6;
        if (directory) {
            int a = freeInodes(0).size();
            int b = freeInodes(1).size();
            int c = freeInodes(2).size();
            group = a >= b && a >= c ? 0 : b >= c ? 1 : 2;
        }
        for (int g : new int[] {group, (group + 1) % 3, (group + 2) % 3}) {
            if (!freeInodes(g).isEmpty()) {
                return freeInodes(g).get(0);
            }
        }
        return -1;
    }

    private int blockFor(int group) {
        for (int g : new int[] {group, (group + 1) % 3, (group + 2) % 3}) {
            for (int b = 12 * g + 2; b < 12 * g + 12; b++) {
                if (blockMark(memory, b) == 0) {
                    return b;
                }
            }
        }
        return -1;
    }

    private int blockForFile(int i, int k) {
        if (k > 0 && pointer(memory, i, k - 1) != 0) {
            int next = pointer(memory, i, k - 1) + 1;
            if (next % 12 != 0 && blockMark(memory, next) == 0) {
                return next;
            }
        }
        return blockFor(i / 6);
    }

    private void takeBlock(int b) {
        memory[b / 12 * 12][b % 12 + 4] = 1;
        memory[b] = new int[8];
        fresh.add(b);
    }

    private void makeEntry(Place p, int name, int i) {
        memory[p.block][p.cell] = 32 * name + i;
        young.add(p);
        memory[i / 6 * 12 + 1][i % 6 * 5 + 1]++;
    }

    private void takeAway(Place p) {
        int i = memory[p.block][p.cell] % 32;
        memory[p.block][p.cell] = 0;
        young.remove(p);
        if (diskCell(p.block, p.cell) == 0) {
            fall(i);
        } else {
            fallsDue.put(p, i);
        }
    }

    private void fall(int i) {
        if (i == 0) {
            throw new IllegalStateException("the root falls");
        }
        int left = --memory[i / 6 * 12 + 1][i % 6 * 5 + 1];
        if (left < 0) {
            throw new IllegalStateException("LINKS below 0");
        }
        if (left > 0) {
            return;
        }
        if (below(memory, 0).contains(i)) {
            throw new IllegalStateException("released in the tree");
        }
        Set<Integer> dropped = kind(memory, i) == 2 ? droppedOfDirectories : droppedOfFiles;
        for (int k = 0; k < 3; k++) {
            if (pointer(memory, i, k) != 0) {
                dropped.add(pointer(memory, i, k));
                point(i, k, 0);
            }
        }
        memory[i / 6 * 12 + 1][i % 6 * 5] = 0;
        released.add(i);
        giveBack();
    }

    private void giveBack() {
        for (int b = 2; b < 36; b++) {
            if (!pointedOn(disk, b)) {
                if (droppedOfFiles.remove(b)) {
                    memory[b / 12 * 12][b % 12 + 4] = 0;
                }
                if (droppedOfDirectories.remove(b)) {
                    memory[b / 12 * 12][b % 12 + 4] = 0;
                    freeEntries(b);
                }
            }
        }
        for (int i = 0; i < 18; i++) {
            if (kind(disk, i) == 0 && released.remove(i)) {
                memory[i / 6 * 12][i % 6] = 0;
            }
        }
    }

    private void freeEntries(int b) {
        for (int c = 0; c < 8; c++) {
            Integer due = fallsDue.remove(new Place(b, c));
            int v = diskCell(b, c);
            if ((due == null ? 0 : due) != v % 32) {
                throw new IllegalStateException("a freed directory's falls are not its entries");
            }
            if (v != 0) {
                fall(v % 32);
            }
        }
    }

    private static boolean pointedOn(int[][] side, int b) {
        for (int i = 0; i < 18; i++) {
            for (int k = 0; k < 3; k++) {
                if (pointer(side, i, k) == b) {
                    return true;
                }
            }
        }
        return false;
    }

    private int owner(int b) {
        for (int i = 0; i < 18; i++) {
            for (int k = 0; k < 3; k++) {
                if (pointer(memory, i, k) == b) {
                    return i;
                }
            }
        }
        return -1;
    }

    private int writeBack(int b) {
        if (b % 12 == 0) {
            disk[b] = memory[b].clone();
            return 0;
        }
        if (b % 12 == 1) {
            return writeTable(b);
        }
        int owner = owner(b);
        if (owner < 0) {
            return 0;
        }
        if (kind(memory, owner) == 1) {
            disk[b] = memory[b].clone();
            fresh.remove(b);
            return 0;
        }
        return writeDirectory(b);
    }

    private int writeTable(int b) {
        int held = 0;
        for (int c = 0; c < 30; c++) {
            int v = memory[b][c];
            boolean pointer = c % 5 > 1;
            if (pointer && v != 0 && v != disk[b][c] && (blockMark(disk, v) == 0 || fresh.contains(v))) {
                held++;
            } else {
                disk[b][c] = v;
            }
        }
        young.removeIf(p -> memory[p.block][p.cell] % 32 / 6 == b / 12);
        giveBack();
        return held;
    }

    private int writeDirectory(int b) {
        if (fresh.remove(b)) {
            disk[b] = new int[8];
        }
        int held = 0;
        for (int c = 0; c < 8; c++) {
            int v = memory[b][c];
            int old = disk[b][c];
            if (v == old) {
                continue;
            }
            if (v != 0 && old != 0) {
                throw new IllegalStateException("two entries in one cell");
            }
            if (v != 0) {
                int i = v % 32;
                if (young.contains(new Place(b, c)) || inodeMark(disk, i) == 0
                    || kind(memory, i) == 2 && pointer(disk, i, 0) == 0) {
                    held++;
                } else {
                    disk[b][c] = v;
                }
                continue;
            }
            Set<Integer> lost = below(disk, 0);
            lost.retainAll(below(memory, 0));
            disk[b][c] = 0;
            lost.removeAll(below(disk, 0));
            if (lost.isEmpty()) {
                fall(fallsDue.remove(new Place(b, c)));
            } else {
                disk[b][c] = old;
                held++;
            }
        }
        return held;
    }

    private boolean alike() {
        for (int b = 0; b < 36; b++) {
            if (b % 12 > 1 && owner(b) < 0) {
                continue;
            }
            if (fresh.contains(b) || !java.util.Arrays.equals(memory[b], disk[b])) {
                return false;
            }
        }
        return true;
    }

    int sync() {
        int passes = 0;
        while (!alike()) {
            for (int b = 0; b < 36; b++) {
                writeBack(b);
            }
            passes++;
            if (passes > 1000) {
                throw new IllegalStateException("a SYNC does not end");
            }
        }
        mostPasses = Math.max(mostPasses, passes);
        directoryRenamed = false;
        return passes;
    }

    int create(int d, int name, boolean directory) {
        if (!inTree(d, 2) || !named(name)) {
            return -1;
        }
        if (find(d, name) != null) {
            return -2;
        }
        if (entries(memory, d).size() == 8) {
            return -3;
        }
        for (int turn = 0; turn < 2; turn++) {
            Place p = freePlace(d);
            int i = inodeFor(d, directory);
            int b = i < 0 || !directory ? 0 : blockFor(i / 6);
            if (p != null && i >= 0 && b >= 0) {
                memory[i / 6 * 12][i % 6] = 1;
                memory[i / 6 * 12 + 1][i % 6 * 5] = directory ? 2 : 1;
                if (directory) {
                    takeBlock(b);
                    point(i, 0, b);
                }
                makeEntry(p, name, i);
                return i;
            }
            if (turn == 0) {
                sync();
            }
        }
        return -3;
    }

    int link(int d, int name, int i) {
        if (!inTree(d, 2) || !named(name) || !inTree(i, 1)) {
            return -1;
        }
        if (find(d, name) != null) {
            return -2;
        }
        if (entries(memory, d).size() == 8) {
            return -3;
        }
        if (freePlace(d) == null) {
            sync();
        }
        makeEntry(freePlace(d), name, i);
        return links(memory, i);
    }

    int remove(int d, int name) {
        if (!inTree(d, 2) || find(d, name) == null) {
            return -1;
        }
        Place p = find(d, name);
        int i = memory[p.block][p.cell] % 32;
        if (!entries(memory, i).isEmpty()) {
            return -4;
        }
        takeAway(p);
        return i;
    }

    int rename(int d, int name, int e, int newName) {
        if (!inTree(d, 2) || !inTree(e, 2) || !named(newName) || find(d, name) == null) {
            return -1;
        }
        if (find(e, newName) != null) {
            return -2;
        }
        Place p = find(d, name);
        int i = memory[p.block][p.cell] % 32;
        if (kind(memory, i) == 2 && below(memory, i).contains(e)) {
            return -4;
        }
        if (entries(memory, e).size() == 8) {
            return -3;
        }
        if (freePlace(e) == null) {
            sync();
        }
        makeEntry(freePlace(e), newName, i);
        takeAway(p);
        directoryRenamed |= kind(memory, i) == 2;
        return i;
    }

    int write(int i, int w, int v) {
        if (!inTree(i, 1) || w < 0 || w > 23) {
            return -1;
        }
        int k = w / 8;
        if (pointer(memory, i, k) == 0) {
            if (blockForFile(i, k) < 0) {
                sync();
            }
            int b = blockForFile(i, k);
            if (b < 0) {
                return -3;
            }
            takeBlock(b);
            point(i, k, b);
        }
        int b = pointer(memory, i, k);
        memory[b][w % 8] = v;
        return b;
    }

    int read(int i, int w) {
        if (!inTree(i, 1) || w < 0 || w > 23 || pointer(memory, i, w / 8) == 0) {
            return 0;
        }
        return memory[pointer(memory, i, w / 8)][w % 8];
    }

    int cut(int i, int n) {
        if (!inTree(i, 1) || n < 0 || n > 3) {
            return -1;
        }
        int count = 0;
        for (int k = n; k < 3; k++) {
            if (pointer(memory, i, k) != 0) {
                droppedOfFiles.add(pointer(memory, i, k));
                point(i, k, 0);
                count++;
            }
        }
        giveBack();
        return count;
    }

    int lookup(int d, int name) {
        Place p = inTree(d, 2) ? find(d, name) : null;
        return p == null ? -1 : memory[p.block][p.cell] % 32;
    }

    int flush(int b) {
        return b < 0 || b > 35 ? -1 : writeBack(b);
    }

    boolean crash() {
        if (directoryRenamed) {
            return false;
        }
        for (int b = 0; b < 36; b++) {
            memory[b] = disk[b].clone();
        }
        fresh.clear();
        young.clear();
        fallsDue.clear();
        droppedOfFiles.clear();
        droppedOfDirectories.clear();
        released.clear();
        return true;
    }

    int reclaim() {
        sync();
        if (!released.isEmpty() || !droppedOfFiles.isEmpty() || !droppedOfDirectories.isEmpty()
            || !young.isEmpty() || !fallsDue.isEmpty()) {
            throw new IllegalStateException("a SYNC leaves something to do");
        }
        int count = 0;
        Set<Integer> tree = below(memory, 0);
        Set<Integer> used = new HashSet<>();
        int[] named = new int[18];
        for (int i : tree) {
            for (int v : entries(memory, i)) {
                named[v % 32]++;
            }
            for (int k = 0; k < 3; k++) {
                used.add(pointer(memory, i, k));
            }
        }
        for (int i = 1; i < 18; i++) {
            memory[i / 6 * 12 + 1][i % 6 * 5 + 1] = named[i];
            if (!tree.contains(i)) {
                count += inodeMark(memory, i);
                memory[i / 6 * 12][i % 6] = 0;
                memory[i / 6 * 12 + 1][i % 6 * 5] = 0;
                for (int k = 0; k < 3; k++) {
                    point(i, k, 0);
                }
            }
        }
        for (int b = 0; b < 36; b++) {
            if (b % 12 > 1 && !used.contains(b)) {
                count += blockMark(memory, b);
                memory[b / 12 * 12][b % 12 + 4] = 0;
            }
        }
        for (int b = 0; b < 36; b++) {
            if (b % 12 < 2) {
                disk[b] = memory[b].clone();
            }
        }
        return count;
    }

    int defects(int kind) {
        int[] found = new int[6];
        int[] named = new int[18];
        int[] pointed = new int[36];
        Set<Integer> tree = below(disk, 0);
        for (int i : tree) {
            for (int v : entries(disk, i)) {
                named[v % 32]++;
                found[0] += kind(disk, v % 32) == 0 || inodeMark(disk, v % 32) == 0 ? 1 : 0;
            }
            for (int k = 0; k < 3; k++) {
                int b = pointer(disk, i, k);
                pointed[b]++;
                found[0] += b != 0 && blockMark(disk, b) == 0 ? 1 : 0;
            }
        }
        for (int b = 0; b < 36; b++) {
            if (b % 12 > 1) {
                found[1] += pointed[b] > 1 ? 1 : 0;
                found[2] += pointed[b] == 0 && blockMark(disk, b) == 1 ? 1 : 0;
            }
        }
        for (int i = 1; i < 18; i++) {
            if (tree.contains(i)) {
                found[4] += links(disk, i) > named[i] ? 1 : 0;
                found[5] += links(disk, i) < named[i] ? 1 : 0;
            } else {
                found[3] += kind(disk, i) != 0 || inodeMark(disk, i) != 0 ? 1 : 0;
            }
        }
        return kind < 0 || kind > 5 ? -1 : found[kind];
    }

    /** The inodes of the tree of that KIND. */
    List<Integer> inodes(int kind) {
        List<Integer> found = new ArrayList<>();
        for (int i : below(memory, 0)) {
            if (kind(memory, i) == kind) {
                found.add(i);
            }
        }
        return found;
    }

    List<Integer> names(int d) {
        List<Integer> found = new ArrayList<>();
        if (inTree(d, 2)) {
            for (int v : entries(memory, d)) {
                found.add(v / 32);
            }
        }
        return found;
    }

    int image(int b, int c) {
        return b < 0 || b > 35 || c < 0 || c >= disk[b].length ? 0 : disk[b][c];
    }

    int cached(int b, int c) {
        return b < 0 || b > 35 || c < 0 || c >= memory[b].length ? 0 : memory[b][c];
    }
}
