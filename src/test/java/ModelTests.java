import java.util.ArrayDeque;
import java.util.ArrayList;
import java.util.Arrays;
import java.util.BitSet;
import java.util.Comparator;
import java.util.HashSet;
import java.util.List;
import java.util.Random;
import java.util.Set;
import java.util.TreeMap;
import java.util.function.Consumer;

/** Many runs of calls drawn from fixed seeds, each answer compared with that of a second, slow volume. */
public final class ModelTests {
    private static final int RUNS = 6000, CALLS = 512;

    /** All that is in place: what a crash goes back to, and what records are done upon. */
    private static final class Disk {
        final int[] kind = new int[16], links = new int[16], parent = new int[16], data = new int[64];
        final List<TreeMap<Integer, Integer>> entries = new ArrayList<>();
        final List<TreeMap<Integer, Integer>> blocks = new ArrayList<>();
        final BitSet marks = new BitSet(64);

        Disk() {
            for (int inode = 0; inode < 16; inode++) {
                entries.add(new TreeMap<>(Comparator.comparing(name -> (37 * name + 11) % 64)));
                blocks.add(new TreeMap<>());
            }
            kind[0] = 2;
        }

        Disk copy() {
            Disk other = new Disk();
            System.arraycopy(kind, 0, other.kind, 0, 16);
            System.arraycopy(links, 0, other.links, 0, 16);
            System.arraycopy(parent, 0, other.parent, 0, 16);
            System.arraycopy(data, 0, other.data, 0, 64);
            for (int inode = 0; inode < 16; inode++) {
                other.entries.get(inode).putAll(entries.get(inode));
                other.blocks.get(inode).putAll(blocks.get(inode));
            }
            other.marks.or(marks);
            return other;
        }

        boolean is(int inode, int wanted) {
            return inode >= 0 && inode < 16 && kind[inode] == wanted;
        }

        int leastFree() {
            int inode = 0;
            while (inode < 16 && kind[inode] != 0) {
                inode++;
            }
            return inode;
        }

        /** Each extent: first position, first block, length. */
        List<int[]> extents(int file) {
            List<int[]> all = new ArrayList<>();
            int[] last = {-9, -9, 0};
            for (var each : blocks.get(file).entrySet()) {
                boolean joins = each.getKey() == last[0] + last[2] && each.getValue() == last[1] + last[2];
                if (joins) {
                    last[2]++;
                } else {
                    last = new int[] {each.getKey(), each.getValue(), 1};
                    all.add(last);
                }
            }
            return all;
        }

        int longestRow() {
            int most = 0;
            for (int block = 0; block < 64; block++) {
                most = Math.max(most, rowFrom(block));
            }
            return most;
        }

        private int rowFrom(int block) {
            int end = marks.nextSetBit(block);
            return (end < 0 ? 64 : end) - block;
        }

        int chosen(int file, int position) {
            Integer left = blocks.get(file).get(position - 1), right = blocks.get(file).get(position + 1);
            if (left != null && left < 63 && !marks.get(left + 1)) {
                return left + 1;
            }
            if (right != null && right > 0 && !marks.get(right - 1)) {
                return right - 1;
            }
            int most = longestRow();
            for (int block = 0; block < 64 && most > 0; block++) {
                if (rowFrom(block) == most) {
                    return block;
                }
            }
            return -1;
        }

        void free(int inode) {
            kind[inode] = 0;
            entries.get(inode).clear();
            blocks.get(inode).clear();
        }

        void doMake(int dir, int name, int newKind) {
            int inode = leastFree();
            kind[inode] = newKind;
            links[inode] = 1;
            parent[inode] = dir;
            entries.get(dir).put(name, inode);
        }

        void doLink(int dir, int name, int file) {
            entries.get(dir).put(name, file);
            links[file]++;
        }

        void doRemove(int dir, int name) {
            int inode = entries.get(dir).remove(name);
            if (--links[inode] == 0) {
                doPunch(inode, 0, 24);
                free(inode);
            }
        }

        void doMove(int dir, int name, int to, int other) {
            int inode = entries.get(dir).remove(name);
            entries.get(to).put(other, inode);
            parent[inode] = to;
        }

        void doWrite(int file, int position, int v) {
            int block = blocks.get(file).computeIfAbsent(position, p -> chosen(file, p));
            marks.set(block);
            data[block] = v;
        }

        void doPunch(int file, int from, int many) {
            var gone = blocks.get(file).subMap(from, from + many);
            gone.values().forEach(block -> marks.clear(block));
            gone.clear();
        }
    }

    private static final class Model {
        private Disk placed = new Disk(), now = placed.copy();
        private final List<Consumer<Disk>> log = new ArrayList<>();
        private int safe = 0;
        private boolean damaged = false;
        private int[] counts = new int[5];

        private void record(Consumer<Disk> change) {
            log.add(change);
            change.accept(now);
        }

        private boolean hasNoEntry(int dir, int name) {
            return !now.is(dir, 2) || name < 0 || name > 63 || !now.entries.get(dir).containsKey(name);
        }

        private boolean logFull() {
            return log.size() == 24;
        }

        private boolean dirFull(int dir) {
            return now.entries.get(dir).size() >= 10;
        }

        int make(int dir, int name, boolean directory) {
            if (!now.is(dir, 2) || name < 0 || name > 63 || damaged) return -1;
            if (now.entries.get(dir).containsKey(name)) return -2;
            int inode = now.leastFree();
            if (dirFull(dir) || logFull() || inode == 16) return -3;
            record(disk -> disk.doMake(dir, name, directory ? 2 : 1));
            return inode;
        }

        int link(int dir, int name, int file) {
            if (!now.is(dir, 2) || name < 0 || name > 63 || damaged) return -1;
            if (!now.is(file, 1) || now.links[file] >= 9) return -1;
            if (now.entries.get(dir).containsKey(name)) return -2;
            if (dirFull(dir) || logFull()) return -3;
            record(disk -> disk.doLink(dir, name, file));
            return now.links[file];
        }

        int remove(int dir, int name) {
            if (hasNoEntry(dir, name) || damaged) return -1;
            int inode = now.entries.get(dir).get(name);
            if (now.kind[inode] == 2 && !now.entries.get(inode).isEmpty()) return -4;
            if (logFull()) return -3;
            record(disk -> disk.doRemove(dir, name));
            return inode;
        }

        int move(int dir, int name, int to, int other) {
            if (hasNoEntry(dir, name) || damaged || !now.is(to, 2) || other < 0 || other > 63) return -1;
            if (now.entries.get(to).containsKey(other)) return -2;
            int inode = now.entries.get(dir).get(name);
            for (int above = to; above != 0; above = now.parent[above]) {
                if (above == inode) return -5;
            }
            if (to != dir && dirFull(to) || logFull()) return -3;
            record(disk -> disk.doMove(dir, name, to, other));
            return inode;
        }

        int write(int file, int position, int v) {
            if (!now.is(file, 1) || position < 0 || position > 23 || damaged) return -1;
            Disk then = now.copy();
            if (logFull()) return -3;
            if (!now.blocks.get(file).containsKey(position)) {
                if (now.marks.cardinality() == 64) return -3;
                then.doWrite(file, position, v);
                if (then.extents(file).size() > 5) return -3;
            }
            record(disk -> disk.doWrite(file, position, v));
            return now.blocks.get(file).get(position);
        }

        int punch(int file, int from, int many) {
            if (!now.is(file, 1) || from < 0 || from > 23 || damaged) return -1;
            if (many < 1 || (long) from + many > 24) return -1;
            Disk then = now.copy();
            then.doPunch(file, from, many);
            if (logFull() || then.extents(file).size() > 5) return -3;
            int gone = now.blocks.get(file).subMap(from, from + many).size();
            record(disk -> disk.doPunch(file, from, many));
            return gone;
        }

        int sync() {
            int fresh = log.size() - safe;
            safe = log.size();
            return fresh;
        }

        int checkpoint() {
            int had = log.size();
            placed = now.copy();
            log.clear();
            safe = 0;
            return had;
        }

        int crash(int j) {
            if (j < 0 || j > 24) return -1;
            int had = log.size();
            safe = Math.min(had, safe + j);
            log.subList(safe, had).clear();
            now = placed.copy();
            log.forEach(change -> change.accept(now));
            return had - safe;
        }

        boolean damage(int what, int a, int b, int c) {
            boolean inode = a >= 0 && a < 16;
            if (!log.isEmpty()) return false;
            if (what == 0 && inode && now.kind[a] != 0 && b >= 0 && b <= 9) {
                now.links[a] = b;
            } else if (what == 1 && a >= 0 && a < 64 && (b == 0 || b == 1)) {
                now.marks.set(a, b == 1);
            } else if (what == 2 && now.is(a, 1) && b >= 0 && b < now.extents(a).size()
                    && c >= 0 && c <= 64 - now.extents(a).get(b)[2]) {
                int[] extent = now.extents(a).get(b);
                for (int n = 0; n < extent[2]; n++) {
                    now.blocks.get(a).put(extent[0] + n, c + n);
                }
            } else if (what == 3 && now.is(a, 2) && b >= 0 && b < now.entries.get(a).size() && c >= 0 && c < 16) {
                now.entries.get(a).put(new ArrayList<>(now.entries.get(a).keySet()).get(b), c);
            } else if (what == 4 && inode && a != 0 && now.kind[a] != 0) {
                now.free(a);
            } else {
                return false;
            }
            damaged = true;
            placed = now.copy();
            return true;
        }

        private void walk(int first, Set<Integer> met) {
            ArrayDeque<Integer> queue = new ArrayDeque<>(List.of(first));
            while (!queue.isEmpty()) {
                int dir = queue.remove();
                for (int name : new ArrayList<>(now.entries.get(dir).keySet())) {
                    int inode = now.entries.get(dir).get(name);
                    if (inode == 0 || now.kind[inode] == 0 || now.kind[inode] == 2 && met.contains(inode)) {
                        now.entries.get(dir).remove(name);
                        counts[0]++;
                        continue;
                    }
                    met.add(inode);
                    if (now.kind[inode] == 2) {
                        now.parent[inode] = dir;
                        queue.add(inode);
                    }
                }
            }
        }

        int mend() {
            if (!log.isEmpty()) return -1;
            counts = new int[5];
            Set<Integer> met = new HashSet<>(List.of(0));
            walk(0, met);
            for (int inode = 1; inode < 16; inode++) {
                if (now.kind[inode] == 0 || met.contains(inode)) continue;
                counts[1]++;
                if (dirFull(0) || now.entries.get(0).containsKey(48 + inode)) {
                    now.free(inode);
                    continue;
                }
                now.entries.get(0).put(48 + inode, inode);
                now.parent[inode] = 0;
                met.add(inode);
                walk(inode, met);
            }
            BitSet used = new BitSet(64);
            for (int file = 1; file < 16; file++) {
                for (int[] extent : now.extents(file)) {
                    BitSet own = new BitSet(64);
                    own.set(extent[1], extent[1] + extent[2]);
                    if (own.intersects(used)) {
                        now.blocks.get(file).subMap(extent[0], extent[0] + extent[2]).clear();
                        counts[2]++;
                    } else {
                        used.or(own);
                    }
                }
            }
            now.marks.xor(used);
            counts[3] = now.marks.cardinality();
            now.marks.clear();
            now.marks.or(used);
            for (int inode = 0; inode < 16; inode++) {
                int many = 0;
                for (var dir : now.entries) {
                    for (int named : dir.values()) many += named == inode ? 1 : 0;
                }
                if (now.kind[inode] != 0 && now.links[inode] != many) counts[4]++;
                now.links[inode] = many;
            }
            damaged = false;
            placed = now.copy();
            return counts[0] + counts[1] + counts[2] + counts[3] + counts[4];
        }

        int mended(int k) {
            return k < 0 || k > 4 ? -1 : counts[k];
        }

        int find(int dir, int name) {
            return hasNoEntry(dir, name) ? -1 : now.entries.get(dir).get(name);
        }

        int entry(int dir, int k, int what) {
            if (!now.is(dir, 2) || k < 0 || k >= now.entries.get(dir).size() || what < 0 || what > 1) return -1;
            var each = new ArrayList<>(now.entries.get(dir).entrySet()).get(k);
            return what == 0 ? each.getKey() : each.getValue();
        }

        int of(int inode, int what) {
            if (inode < 0 || inode > 15 || what < 0 || what > 4) return -1;
            int kind = now.kind[inode];
            if (what == 0) return kind;
            if (kind == 0 || kind == 2 && what == 3 || kind == 1 && what == 4) return -1;
            if (what == 1) return now.links[inode];
            if (what == 2) return now.entries.get(inode).size() + now.blocks.get(inode).size();
            return what == 3 ? now.extents(inode).size() : now.parent[inode];
        }

        int read(int file, int position) {
            if (!now.is(file, 1) || position < 0 || position > 23) return 0;
            Integer block = now.blocks.get(file).get(position);
            return block == null ? 0 : now.data[block];
        }

        int extent(int file, int k, int what) {
            if (!now.is(file, 1) || k < 0 || k >= now.extents(file).size() || what < 0 || what > 2) return -1;
            return now.extents(file).get(k)[what];
        }

        int state(int what) {
            int inodes = 0;
            for (int kind : now.kind) inodes += kind == 0 ? 0 : 1;
            int[] all = {64 - now.marks.cardinality(), now.longestRow(), log.size(), safe, inodes, damaged ? 1 : 0};
            return what < 0 || what > 5 ? -1 : all[what];
        }
    }

    private static final int[] STRANGE = {-1, -2, Integer.MIN_VALUE, Integer.MAX_VALUE, 16, 24, 25, 64, 65, 1 << 26};

    private final Random random;
    private final int nameRange, writing;
    private final boolean calm;
    private int damages = 0;
    private final Model model = new Model();
    private final JournalVolume volume = new JournalVolume();

    private ModelTests(int seed) {
        random = new Random(seed);
        nameRange = seed % 3 == 0 ? 64 : seed % 3 == 1 ? 12 : 20;
        writing = seed % 4;
        calm = seed % 5 == 0;
    }

    private int below(int bound) {
        return !calm && random.nextInt(60) == 0 ? STRANGE[random.nextInt(STRANGE.length)] : random.nextInt(bound);
    }

    private int aKind(int kind) {
        int inode = below(16);
        for (int tries = 0; tries < 40 && inode >= 0 && inode < 16 && model.now.kind[inode] != kind; tries++) {
            inode = random.nextInt(16);
        }
        return random.nextInt(20) == 0 ? below(16) : inode;
    }

    private int aName() {
        return random.nextInt(12) == 0 ? 48 + below(16) : below(nameRange);
    }

    /** A name that is there, more often than not. */
    private int aNameIn(int dir) {
        if (!model.now.is(dir, 2) || model.now.entries.get(dir).isEmpty() || random.nextInt(3) == 0) {
            return aName();
        }
        List<Integer> there = new ArrayList<>(model.now.entries.get(dir).keySet());
        return there.get(random.nextInt(there.size()));
    }

    /** Draws one call and answers what is wrong with its answer, or null. */
    private String call() {
        if (damages > 0) {
            damages--;
            return damages == 0 ? compare("mend", volume.mend(), model.mend()) : callOfDamage();
        }
        int pick = random.nextInt(100);
        if (pick < 14 - 2 * writing) {
            int dir = aKind(2), name = aName();
            boolean directory = random.nextInt(5) < 2;
            return compare("make", volume.make(dir, name, directory), model.make(dir, name, directory), dir, name);
        } else if (pick < 20) {
            int dir = aKind(2), name = aName(), file = aKind(1);
            return compare("link", volume.link(dir, name, file), model.link(dir, name, file), dir, name, file);
        } else if (pick < 25) {
            int dir = aKind(2), name = aNameIn(dir);
            return compare("remove", volume.remove(dir, name), model.remove(dir, name), dir, name);
        } else if (pick < 31) {
            int dir = aKind(2), name = aNameIn(dir), to = aKind(2), other = aName();
            return compare("move", volume.move(dir, name, to, other), model.move(dir, name, to, other),
                    dir, name, to, other);
        } else if (pick < 40 + 4 * writing) {
            int file = aKind(1), position = below(24), v = random.nextInt();
            return compare("write", volume.write(file, position, v), model.write(file, position, v), file, position, v);
        } else if (pick < 56) {
            int file = aKind(1), from = below(24), many = random.nextInt(3) > 0 ? 1 + below(3) : below(25);
            return compare("punch", volume.punch(file, from, many), model.punch(file, from, many), file, from, many);
        }
        return pick < 74 ? callOfLogOrDamage() : callThatAsks();
    }

    private String callOfLogOrDamage() {
        int pick = random.nextInt(20);
        if (pick < 2) {
            return compare("sync", volume.sync(), model.sync());
        } else if (pick < 6) {
            damages = random.nextInt(3) == 0 ? 2 + random.nextInt(8) : 0;
            return compare("checkpoint", volume.checkpoint(), model.checkpoint());
        } else if (pick < 8) {
            int j = random.nextInt(3) == 0 ? below(25) : 4 + below(8);
            return compare("crash", volume.crash(j), model.crash(j), j);
        } else if (pick < 16) {
            return callOfDamage();
        }
        return compare("mend", volume.mend(), model.mend());
    }

    private String callOfDamage() {
        int what = below(5), a = what == 1 ? below(64) : what == 2 ? aKind(1) : what == 3 ? aKind(2) : below(16);
        int b = what == 1 ? below(2) : what == 2 ? below(3) : below(10), c = what == 2 ? below(64) : below(16);
        return compare("damage", volume.damage(what, a, b, c) ? 1 : 0, model.damage(what, a, b, c) ? 1 : 0,
                what, a, b, c);
    }

    private String callThatAsks() {
        int a = below(16), b = below(10), c = below(3);
        switch (random.nextInt(8)) {
            case 0:
                return compare("mended", volume.mended(b), model.mended(b), b);
            case 1:
                int dir = aKind(2), name = aNameIn(dir);
                return compare("find", volume.find(dir, name), model.find(dir, name), dir, name);
            case 2:
                int in = aKind(2);
                return compare("entry", volume.entry(in, b, c), model.entry(in, b, c), in, b, c);
            case 3:
                return compare("of", volume.of(a, b), model.of(a, b), a, b);
            case 4:
                int file = aKind(1), position = below(24);
                return compare("read", volume.read(file, position), model.read(file, position), file, position);
            case 5:
                int other = aKind(1), k = below(6);
                return compare("extent", volume.extent(other, k, c), model.extent(other, k, c), other, k, c);
            case 6:
                return compare("of", volume.of(a, 4), model.of(a, 4), a, 4);
            default:
                return compare("state", volume.state(b), model.state(b), b);
        }
    }

    private static final TreeMap<String, Integer> SEEN = new TreeMap<>();

    private static String compare(String call, int got, int due, int... arguments) {
        SEEN.merge(call + (due < 0 && !call.equals("read") ? " " + due : ""), 1, Integer::sum);
        return got == due ? null : call + Arrays.toString(arguments) + " answered " + got + ", due is " + due;
    }

    public static void main(String[] args) {
        int wrong = 0;
        for (int seed = 0; seed < RUNS; seed++) {
            ModelTests run = new ModelTests(seed);
            for (int n = 0; n < CALLS; n++) {
                String fault = run.call();
                if (fault != null) {
                    wrong++;
                    System.out.println("seed " + seed + ", call " + n + ": " + fault);
                    break;
                }
            }
        }
        for (String need : new String[] {"make -1", "make -2", "make -3", "link -1", "link -2", "link -3", "remove -1",
                "remove -3", "remove -4", "move -1", "move -2", "move -3", "move -5", "write -1", "write -3",
                "punch -1", "punch -3", "crash -1", "mend -1"}) {
            if (!SEEN.containsKey(need)) {
                wrong++;
                System.out.println("the runs never met " + need);
            }
        }
        System.out.println(wrong == 0 ? "all runs are as the model's" : wrong + " faults");
        if (wrong != 0) {
            System.exit(1);
        }
    }
}
