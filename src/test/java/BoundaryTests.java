import java.util.ArrayList;
import java.util.Arrays;
import java.util.Comparator;
import java.util.List;
import java.util.function.Function;
import java.util.function.Supplier;

/** One test for each sentence of the document that names a boundary, with the sentence. */
public final class BoundaryTests {
    private static final int REFUSED = -1, EXISTS = -2, FULL = -3, NOT_EMPTY = -4, LOOP = -5;
    private static final int LEAST = Integer.MIN_VALUE, MOST = Integer.MAX_VALUE, MOST_CALLS = 512;

    // Beside the nearest ones: those that would come back into range by a remainder or a wrap-around.
    private static final int[] NO_INODE = {-1, 16, 32, -16, 1 << 26, 1 << 28, LEAST, MOST};
    private static final int[] NO_NAME = {-1, 64, 65, 128, -63, -64, 1 << 26, LEAST, MOST};
    private static final int[] NO_POSITION = {-1, 24, 25, 48, -24, 1 << 28, LEAST, MOST};
    private static final int[] NO_BLOCK = {-1, 64, 65, 128, -64, LEAST, MOST};

    private static String place = "", sentence = "";
    private static int tests = 0, wrong = 0;

    private static void fault(String what) {
        wrong++;
        System.out.println(place + ", \"" + sentence + "\": " + what);
    }

    private record Answer(String call, int got) {
        void is(int due) {
            if (got != due) {
                fault(call + " answered " + got + ", due is " + due);
            }
        }

        void is(boolean due) {
            is(due ? 1 : 0);
        }
    }

    /** One object, its calls told and counted: beyond 512 of them nothing is promised. */
    private static final class Volume {
        private final JournalVolume v = new JournalVolume();
        private int calls = 0;

        private Answer tell(String name, int got, int... arguments) {
            calls++;
            if (calls > MOST_CALLS) {
                fault("the test makes more than " + MOST_CALLS + " calls");
            }
            String told = Arrays.toString(arguments);
            return new Answer("call " + calls + ", " + name + told, got);
        }

        Answer make(int dir, int name, boolean directory) {
            return tell(directory ? "make directory" : "make file", v.make(dir, name, directory), dir, name);
        }

        Answer link(int dir, int name, int file) {
            return tell("link", v.link(dir, name, file), dir, name, file);
        }

        Answer remove(int dir, int name) {
            return tell("remove", v.remove(dir, name), dir, name);
        }

        Answer move(int dir, int name, int to, int other) {
            return tell("move", v.move(dir, name, to, other), dir, name, to, other);
        }

        Answer write(int file, int position, int value) {
            return tell("write", v.write(file, position, value), file, position, value);
        }

        Answer punch(int file, int from, int many) {
            return tell("punch", v.punch(file, from, many), file, from, many);
        }

        Answer sync() {
            return tell("sync", v.sync());
        }

        Answer checkpoint() {
            return tell("checkpoint", v.checkpoint());
        }

        Answer crash(int j) {
            return tell("crash", v.crash(j), j);
        }

        Answer damage(int what, int a, int b, int c) {
            return tell("damage", v.damage(what, a, b, c) ? 1 : 0, what, a, b, c);
        }

        Answer mend() {
            return tell("mend", v.mend());
        }

        Answer mended(int k) {
            return tell("mended", v.mended(k), k);
        }

        Answer find(int dir, int name) {
            return tell("find", v.find(dir, name), dir, name);
        }

        Answer entry(int dir, int k, int what) {
            return tell("entry", v.entry(dir, k, what), dir, k, what);
        }

        Answer of(int inode, int what) {
            return tell("of", v.of(inode, what), inode, what);
        }

        Answer read(int file, int position) {
            return tell("read", v.read(file, position), file, position);
        }

        Answer extent(int file, int k, int what) {
            return tell("extent", v.extent(file, k, what), file, k, what);
        }

        Answer state(int what) {
            return tell("state", v.state(what), what);
        }

        /** The first of the states, as many as are due. */
        void states(int... due) {
            for (int what = 0; what < due.length; what++) {
                state(what).is(due[what]);
            }
        }

        void names(int dir, int... due) {
            of(dir, 2).is(due.length);
            for (int k = 0; k < due.length; k++) {
                entry(dir, k, 0).is(due[k]);
            }
            entry(dir, due.length, 0).is(REFUSED);
        }

        /** Due: first position, first block and length of each. */
        void extents(int file, int... due) {
            of(file, 3).is(due.length / 3);
            for (int n = 0; n < due.length; n++) {
                extent(file, n / 3, n % 3).is(due[n]);
            }
            extent(file, due.length / 3, 0).is(REFUSED);
        }

        void mends(int entries, int inodes, int extents, int marks, int links) {
            mend().is(entries + inodes + extents + marks + links);
            int[] due = {entries, inodes, extents, marks, links};
            for (int k = 0; k < 5; k++) {
                mended(k).is(due[k]);
            }
            state(5).is(0);
        }

        /** All that can be seen of it, but for what no file is mapped to. */
        String look() {
            StringBuilder seen = new StringBuilder();
            for (int what = 0; what < 6; what++) {
                seen.append(state(what).got).append(what < 5 ? " " : "; mended");
            }
            for (int k = 0; k < 5; k++) {
                seen.append(' ').append(mended(k).got);
            }
            for (int inode = 0; inode < 16; inode++) {
                int kind = of(inode, 0).got;
                if (kind != 0) {
                    seen.append("; inode ").append(inode).append(" kind ").append(kind);
                    seen.append(" links ").append(of(inode, 1).got);
                    seen.append(kind == 2 ? lookAtEntries(inode) : lookAtExtents(inode));
                }
            }
            return seen.toString();
        }

        private String lookAtEntries(int dir) {
            StringBuilder seen = new StringBuilder(" parent " + of(dir, 4).got + " entries");
            int many = of(dir, 2).got;
            for (int k = 0; k < many; k++) {
                seen.append(' ').append(entry(dir, k, 0).got).append('>').append(entry(dir, k, 1).got);
            }
            return seen.toString();
        }

        private String lookAtExtents(int file) {
            StringBuilder seen = new StringBuilder(" extents");
            int many = of(file, 3).got;
            for (int k = 0; k < many; k++) {
                int first = extent(file, k, 0).got, length = extent(file, k, 2).got;
                seen.append(' ').append(first).append('>').append(extent(file, k, 1).got).append(':');
                for (int n = 0; n < length; n++) {
                    seen.append(' ').append(read(file, first + n).got);
                }
            }
            return seen.toString();
        }
    }

    // Volumes to begin with.

    /** A directory 1 and a file 2 in the root, a file 3 in directory 1, named as their numbers. Three records. */
    private static Volume small() {
        Volume v = new Volume();
        v.make(0, 1, true).is(1);
        v.make(0, 2, false).is(2);
        v.make(1, 3, false).is(3);
        return v;
    }

    private static Volume smallInPlace() {
        Volume v = small();
        v.checkpoint().is(3);
        return v;
    }

    private static Volume smallDamaged() {
        Volume v = smallInPlace();
        v.damage(1, 63, 1, 0).is(true);
        return v;
    }

    /** Files 2 and 3 have two positions each, 0 and 1: blocks 0, 1 and 2, 3. */
    private static Volume smallWithBlocks() {
        Volume v = small();
        for (int n = 0; n < 4; n++) {
            v.write(2 + n / 2, n % 2, 10 + n).is(n);
        }
        v.checkpoint().is(7);
        return v;
    }

    private static Volume fullLog() {
        Volume v = small();
        for (int n = 0; n < 21; n++) {
            v.write(2, 0, n).is(0);
        }
        return v;
    }

    /** Directory 1 has ten entries, named 20 .. 29: eight for file 3, and the files 4 and 5 (21, 22). */
    private static Volume fullDirectory() {
        Volume v = new Volume();
        v.make(0, 1, true).is(1);
        v.make(0, 2, false).is(2);
        for (int name = 20; name < 23; name++) {
            v.make(1, name, false).is(name - 17);
        }
        for (int name = 23; name < 30; name++) {
            v.link(1, name, 3).is(name - 21);
        }
        v.checkpoint().is(12);
        return v;
    }

    /** Directories 1 and 2 and files 3 .. 15: 1 .. 8 in the root, 9 .. 15 in directory 1, named as their numbers. */
    private static Volume allInodes() {
        Volume v = new Volume();
        for (int inode = 1; inode < 16; inode++) {
            v.make(inode < 9 ? 0 : 1, inode, inode < 3).is(inode);
        }
        v.checkpoint().is(15);
        return v;
    }

    /** Position p of file 3 has block p, of file 4 block 24 + p, of file 5 (16 positions) block 48 + p. */
    private static Volume allBlocks() {
        Volume v = allInodes();
        for (int n = 0; n < 64; n++) {
            v.write(3 + n / 24, n % 24, 1000 + n).is(n);
            if (n % 24 == 23 || n == 63) {
                v.checkpoint().is(n == 63 ? 16 : 24);
            }
        }
        return v;
    }

    /** File 2 has the positions 0, 2, 4, 6, 8 in blocks 0 .. 4. */
    private static Volume fiveExtents() {
        Volume v = small();
        for (int n = 0; n < 5; n++) {
            v.write(2, 2 * n, n).is(n);
        }
        return v;
    }

    /** The root has ten files, inodes 1 .. 10, named 0 .. 9; the first in order is 5 (inode 6), then 0, 7, 2. */
    private static Volume fullRoot() {
        Volume v = new Volume();
        for (int name = 0; name < 10; name++) {
            v.make(0, name, false).is(name + 1);
        }
        v.checkpoint().is(10);
        return v;
    }

    /** Directories 1, 2 and 3 have ten entries each, for the files 4 .. 7: more than there are inodes. */
    private static Volume manyEntries() {
        Volume v = new Volume();
        for (int dir = 1; dir < 4; dir++) {
            v.make(0, dir, true).is(dir);
        }
        for (int n = 0; n < 30; n++) {
            if (n % 9 == 0) {
                v.checkpoint();
                v.make(1 + n / 10, n, false).is(4 + n / 9);
            } else {
                v.link(1 + n / 10, n, 4 + n / 9).is(n % 9 + 1);
            }
        }
        v.checkpoint().is(3);
        return v;
    }

    /** That a call answers what is due, and that all is as if it had not been, also after a crash. */
    private static void doesNothing(Supplier<Volume> begin, Function<Volume, Answer> call, int due) {
        Volume with = begin.get(), without = begin.get();
        call.apply(with).is(due);
        compare(with, without);
        Volume crashed = begin.get(), other = begin.get();
        call.apply(crashed).is(due);
        int lost = other.crash(0).got;
        crashed.crash(0).is(lost);
        compare(crashed, other);
    }

    private static void compare(Volume one, Volume other) {
        String seen = one.look(), due = other.look();
        if (!seen.equals(due)) {
            fault("it is " + seen + ", due is " + due);
        }
    }

    private static void holds(String where, String words, Runnable test) {
        place = where;
        sentence = words;
        tests++;
        try {
            test.run();
        } catch (RuntimeException thrown) {
            fault("a call threw " + thrown);
        }
    }

    // Terms.

    private static void terms() {
        holds("Terms", "An object is used for at most 512 calls", BoundaryTests::lastCall);
        holds("Terms", "INODES 0 .. 15", BoundaryTests::inodes);
        holds("Terms", "0 is the ROOT, a directory always", BoundaryTests::rootAlways);
        holds("Terms", "A directory has at most 10 ENTRIES", BoundaryTests::tenEntries);
        holds("Terms", "a name 0 .. 63", BoundaryTests::nameRange);
        holds("Terms", "(different ones)", BoundaryTests::differentNames);
        holds("Terms", "their order is that of (37 name + 11) modulo 64", BoundaryTests::hashOrder);
        holds("Terms", "LINKS: how many entries name it (0 for the root)", BoundaryTests::linksOfRoot);
        holds("Terms", "it is kept, and so are the MARKS of blocks", BoundaryTests::keptNumbers);
        holds("Terms", "A file has POSITIONS 0 .. 23", BoundaryTests::positionRange);
        holds("Terms", "each is a HOLE, or MAPPED to a BLOCK 0 .. 63, which holds an int", BoundaryTests::blocksHoldInts);
        holds("Terms", "An EXTENT is a longest row of neighbouring positions", BoundaryTests::neighbouringPositions);
        holds("Terms", "that are mapped to blocks that follow one another", BoundaryTests::followingBlocks);
        holds("Terms", "a file may have at most 5", BoundaryTests::fiveExtentsAtMost);
        holds("Terms", "if n - 1 is mapped and the block behind its block is not marked, that", BoundaryTests::blockBehind);
        holds("Terms", "n - 1: position 0 has none before it", BoundaryTests::nothingBeforeFirst);
        holds("Terms", "the block behind its block: 63 has none", BoundaryTests::nothingBehindLastBlock);
        holds("Terms", "else if n + 1 is mapped and the block before its block is not marked, that",
                BoundaryTests::blockBefore);
        holds("Terms", "n + 1: position 23 has none behind it", BoundaryTests::nothingBehindLast);
        holds("Terms", "the block before its block: 0 has none", BoundaryTests::nothingBeforeFirstBlock);
        holds("Terms", "else the first block of the longest row of blocks that are not marked", BoundaryTests::longestRow);
        holds("Terms", "the longest row: none goes from 63 on to 0", BoundaryTests::rowsDoNotWrap);
        holds("Terms", "(the lowest of several)", BoundaryTests::lowestRow);
        holds("Terms", "it is marked then", BoundaryTests::chosenIsMarked);
        holds("Terms", "blocks of what becomes a hole or FREE are not any more", BoundaryTests::unmarked);
        holds("Terms", "THE LOG has at most 24 RECORDS", BoundaryTests::fullLogTakesNone);
        holds("Terms", "each call that is not refused is one", BoundaryTests::eachIsARecord);
        holds("Terms", "each call that is not refused is one: those refused are none", BoundaryTests::refusedIsNoRecord);
        holds("Terms", "SAFE are those up to the latest sync", BoundaryTests::safeRecords);
        holds("Terms", "all records but the safe ones and the first j others are lost", BoundaryTests::lostRecords);
        holds("Terms", "all is as if they had not been", BoundaryTests::asIfTheyHadNotBeen);
        holds("Terms", "those left are in the log, and safe", BoundaryTests::leftInTheLog);
        holds("Terms", "A DAMAGED volume takes none of these calls", BoundaryTests::damagedTakesNone);
        holds("Terms", "until it is mended", BoundaryTests::untilMended);
    }

    private static void lastCall() {
        Volume v = smallInPlace();
        v.write(2, 23, -7).is(0);
        v.sync().is(1);
        while (v.calls < MOST_CALLS - 2) {
            v.write(2, 23, v.calls).is(0);
            v.crash(0).is(1);
        }
        v.read(2, 23).is(-7);
        v.write(2, 22, 1).is(1);
        new Answer("calls", v.calls).is(MOST_CALLS);
    }

    private static void inodes() {
        Volume v = allInodes();
        v.of(0, 0).is(2);
        v.of(15, 0).is(1);
        v.find(1, 15).is(15);
        v.state(4).is(16);
        v.make(2, 40, false).is(FULL);
        for (int none : NO_INODE) {
            v.of(none, 0).is(REFUSED);
        }
    }

    private static void rootAlways() {
        Volume v = new Volume();
        v.make(0, 1, true).is(1);
        v.remove(0, 1).is(1);
        v.of(0, 0).is(2);
        v.checkpoint().is(2);
        v.damage(4, 0, 0, 0).is(false);
        v.make(0, 1, true).is(1);
        v.checkpoint().is(1);
        v.damage(3, 0, 0, 0).is(true);
        v.find(0, 1).is(0);
        v.mends(1, 1, 0, 0, 0);
        v.of(0, 0).is(2);
        v.of(0, 4).is(0);
        v.names(0, 49);
    }

    private static void tenEntries() {
        Volume v = fullDirectory();
        v.names(1, 24, 26, 21, 28, 23, 25, 20, 27, 22, 29);
        v.make(1, 30, false).is(FULL);
        v.make(1, 30, true).is(FULL);
        v.link(1, 30, 2).is(FULL);
        v.move(0, 2, 1, 30).is(FULL);
        v.remove(1, 29).is(3);
        v.make(1, 30, true).is(6);
        v.make(1, 31, true).is(FULL);
        v.of(1, 2).is(10);
        Volume beside = new Volume();
        beside.make(0, 1, true).is(1);
        beside.make(0, 2, true).is(2);
        beside.make(2, 17, false).is(3);
        beside.make(1, 36, false).is(4);
        beside.names(1, 36);
        beside.names(2, 17);
        Volume root = fullRoot();
        root.make(0, 10, false).is(FULL);
        root.link(0, 10, 1).is(FULL);
        root.of(0, 2).is(10);
    }

    private static void nameRange() {
        Volume v = new Volume();
        v.make(0, 0, true).is(1);
        v.make(0, 63, false).is(2);
        v.make(1, 63, false).is(3);
        v.make(1, 0, false).is(4);
        v.find(0, 0).is(1);
        v.find(0, 63).is(2);
        v.names(1, 0, 63);
        for (int none : NO_NAME) {
            v.make(0, none, false).is(REFUSED);
            v.find(0, none).is(REFUSED);
        }
        for (int name = 0; name < 64; name++) {
            Volume one = new Volume();
            one.make(0, name, false).is(1);
            one.names(0, name);
            one.find(0, name).is(1);
            one.find(0, (name + 1) % 64).is(REFUSED);
            one.remove(0, name).is(1);
            one.names(0);
        }
    }

    private static void differentNames() {
        Volume v = small();
        v.make(0, 1, true).is(EXISTS);
        v.make(0, 1, false).is(EXISTS);
        v.make(1, 1, false).is(4);
        v.make(1, 2, true).is(5);
        v.make(5, 1, true).is(6);
        v.names(0, 2, 1);
    }

    private static void hashOrder() {
        for (int one = 0; one < 64; one++) {
            for (int other = 0; other < 64; other++) {
                if (one != other) {
                    Volume v = new Volume();
                    v.make(0, one, false).is(1);
                    v.make(0, other, false).is(2);
                    boolean first = (37 * one + 11) % 64 < (37 * other + 11) % 64;
                    v.entry(0, 0, 0).is(first ? one : other);
                    v.entry(0, 0, 1).is(first ? 1 : 2);
                    v.entry(0, 1, 0).is(first ? other : one);
                }
            }
        }
        for (int step = 1; step < 64; step += 2) {
            Volume v = new Volume();
            List<Integer> names = new ArrayList<>();
            for (int n = 0; n < 10; n++) {
                names.add(n * step % 64);
                v.make(0, n * step % 64, false).is(n + 1);
            }
            names.sort(Comparator.comparing(name -> (37 * name + 11) % 64));
            v.names(0, names.stream().mapToInt(name -> name).toArray());
        }
        Volume ends = new Volume();
        ends.make(0, 36, false);
        ends.make(0, 17, false);
        ends.names(0, 17, 36);
    }

    private static void linksOfRoot() {
        new Volume().of(0, 1).is(0);
        Volume v = small();
        v.of(0, 1).is(0);
        v.of(1, 1).is(1);
        v.of(2, 1).is(1);
        v.make(1, 1, true).is(4);
        v.of(1, 1).is(1);
        v.link(4, 1, 2).is(2);
        v.of(2, 1).is(2);
        v.of(0, 1).is(0);
    }

    private static void keptNumbers() {
        Volume v = smallWithBlocks();
        v.damage(0, 2, 9, 0).is(true);
        v.of(2, 1).is(9);
        v.damage(0, 2, 0, 0).is(true);
        v.of(2, 1).is(0);
        v.of(2, 0).is(1);
        v.damage(1, 0, 0, 0).is(true);
        v.damage(1, 63, 1, 0).is(true);
        v.states(60, 59);
        v.read(2, 0).is(10);
        v.damage(2, 2, 0, 10).is(true);
        v.states(60, 59);
        v.damage(3, 0, 0, 3).is(true);
        v.of(3, 1).is(1);
        v.of(2, 1).is(0);
    }

    private static void positionRange() {
        Volume v = small();
        v.write(2, 0, 5).is(0);
        v.write(2, 23, 6).is(1);
        v.read(2, 0).is(5);
        v.read(2, 23).is(6);
        v.punch(2, 23, 1).is(1);
        v.punch(2, 0, 1).is(1);
        for (int none : NO_POSITION) {
            v.write(2, none, 5).is(REFUSED);
            v.punch(2, none, 1).is(REFUSED);
            v.read(2, none).is(0);
        }
    }

    private static void blocksHoldInts() {
        Volume v = allBlocks();
        for (int n = 0; n < 64; n++) {
            v.read(3 + n / 24, n % 24).is(1000 + n);
        }
        v.write(3, 0, LEAST).is(0);
        v.write(5, 15, MOST).is(63);
        v.read(3, 0).is(LEAST);
        v.read(3, 1).is(1001);
        v.read(5, 15).is(MOST);
        v.read(5, 14).is(1062);
        v.write(3, 0, -1).is(0);
        v.read(3, 0).is(-1);
    }

    private static void neighbouringPositions() {
        Volume v = small();
        for (int n = 0; n < 21; n++) {
            v.write(2, n, n).is(n);
        }
        v.checkpoint().is(24);
        for (int n = 21; n < 24; n++) {
            v.write(2, n, n).is(n);
        }
        v.extents(2, 0, 0, 24);
        v.punch(2, 1, 22).is(22);
        v.extents(2, 0, 0, 1, 23, 23, 1);
        Volume hole = small();
        hole.write(2, 5, 0).is(0);
        hole.write(2, 7, 0).is(1);
        hole.extents(2, 5, 0, 1, 7, 1, 1);
        Volume files = small();
        files.write(2, 23, 0).is(0);
        files.write(3, 0, 0).is(1);
        files.extents(2, 23, 0, 1);
        files.extents(3, 0, 1, 1);
    }

    private static void followingBlocks() {
        Volume down = small();
        down.write(2, 5, 0).is(0);
        down.write(2, 4, 0).is(1);
        down.extents(2, 4, 1, 1, 5, 0, 1);
        Volume v = small();
        v.write(2, 0, 0).is(0);
        v.write(3, 0, 0).is(1);
        v.write(2, 1, 0).is(2);
        v.extents(2, 0, 0, 1, 1, 2, 1);
        v.checkpoint().is(6);
        v.damage(2, 2, 0, 63).is(true);
        v.damage(2, 2, 1, 0).is(true);
        v.extents(2, 0, 63, 1, 1, 0, 1);
        v.damage(2, 2, 0, 0).is(true);
        v.extents(2, 0, 0, 1, 1, 0, 1);
        v.damage(2, 2, 1, 1).is(true);
        v.extents(2, 0, 0, 2);
    }

    private static void fiveExtentsAtMost() {
        Volume v = fiveExtents();
        v.of(2, 3).is(5);
        v.write(2, 10, 0).is(FULL);
        v.write(3, 0, 0).is(5);
        v.of(2, 3).is(5);
        v.write(2, 8, 7).is(4);
        v.punch(2, 4, 1).is(1);
        v.write(2, 10, 0).is(6);
        v.of(2, 3).is(5);
    }

    private static void blockBehind() {
        Volume v = allBlocks();
        v.punch(3, 5, 2).is(2);
        v.punch(4, 0, 10).is(10);
        v.write(3, 5, 0).is(5);
        v.write(3, 6, 0).is(6);
        Volume both = small();
        both.write(2, 0, 0).is(0);
        for (int n = 0; n < 3; n++) {
            both.write(3, n, 0).is(n + 1);
        }
        both.write(2, 2, 0).is(4);
        both.punch(3, 0, 3).is(3);
        both.write(2, 1, 0).is(1);
        both.extents(2, 0, 0, 2, 2, 4, 1);
    }

    private static void nothingBeforeFirst() {
        Volume v = small();
        v.write(2, 23, 0).is(0);
        v.write(3, 10, 0).is(1);
        v.write(3, 12, 0).is(2);
        v.punch(3, 10, 1).is(1);
        v.write(3, 0, 0).is(3);
    }

    private static void nothingBehindLastBlock() {
        Volume v = allBlocks();
        v.punch(3, 0, 1).is(1);
        v.punch(3, 5, 2).is(2);
        v.write(5, 16, 0).is(5);
        v.extents(5, 0, 48, 16, 16, 5, 1);
    }

    private static void blockBefore() {
        Volume alone = allBlocks();
        alone.punch(3, 3, 3).is(3);
        alone.punch(4, 0, 10).is(10);
        alone.write(3, 5, 0).is(5);
        Volume marked = small();
        marked.write(2, 0, 0).is(0);
        marked.write(3, 0, 0).is(1);
        marked.write(3, 1, 0).is(2);
        marked.write(2, 2, 0).is(3);
        marked.punch(3, 1, 1).is(1);
        marked.write(2, 1, 0).is(2);
        marked.extents(2, 0, 0, 1, 1, 2, 2);
        Volume neither = small();
        neither.write(2, 0, 0).is(0);
        neither.write(3, 0, 0).is(1);
        neither.write(2, 2, 0).is(2);
        neither.write(2, 1, 0).is(3);
        neither.extents(2, 0, 0, 1, 1, 3, 1, 2, 2, 1);
    }

    private static void nothingBehindLast() {
        Volume v = small();
        v.write(2, 0, 0).is(0);
        v.write(3, 0, 0).is(1);
        v.punch(2, 0, 1).is(1);
        v.write(2, 23, 0).is(2);
        v.punch(3, 0, 1).is(1);
        v.write(2, 22, 0).is(1);
        v.extents(2, 22, 1, 2);
    }

    private static void nothingBeforeFirstBlock() {
        Volume v = small();
        v.write(2, 5, 0).is(0);
        v.write(2, 4, 0).is(1);
        Volume last = allBlocks();
        last.punch(3, 0, 3).is(3);
        last.punch(5, 15, 1).is(1);
        last.write(6, 5, 0).is(0);
        last.write(6, 4, 0).is(1);
    }

    private static void longestRow() {
        small().write(2, 7, 0).is(0);
        Volume end = allBlocks();
        end.punch(3, 10, 1).is(1);
        end.punch(5, 14, 2).is(2);
        end.state(1).is(2);
        end.write(6, 0, 0).is(62);
        Volume single = allBlocks();
        single.punch(5, 15, 1).is(1);
        single.state(1).is(1);
        single.write(6, 23, 0).is(63);
        single.states(0, 0);
        Volume middle = allBlocks();
        middle.punch(3, 0, 3).is(3);
        middle.punch(4, 6, 4).is(4);
        middle.punch(5, 13, 3).is(3);
        middle.write(6, 0, 0).is(30);
    }

    private static void rowsDoNotWrap() {
        Volume v = allBlocks();
        v.punch(3, 0, 2).is(2);
        v.punch(5, 14, 2).is(2);
        v.punch(4, 5, 3).is(3);
        v.states(7, 3);
        v.write(6, 0, 0).is(29);
    }

    private static void lowestRow() {
        Volume v = allBlocks();
        v.punch(4, 4, 3).is(3);
        v.punch(3, 4, 3).is(3);
        v.punch(5, 13, 3).is(3);
        v.write(6, 0, 0).is(4);
        v.state(1).is(3);
        v.write(6, 2, 0).is(28);
        v.write(6, 4, 0).is(61);
        v.state(1).is(2);
        v.write(6, 6, 0).is(5);
    }

    private static void chosenIsMarked() {
        Volume v = small();
        v.write(2, 0, 0).is(0);
        v.states(63, 63);
        v.write(3, 0, 0).is(1);
        v.states(62, 62);
        v.write(2, 0, 1).is(0);
        v.states(62, 62);
    }

    private static void unmarked() {
        Volume v = smallWithBlocks();
        v.state(0).is(60);
        v.punch(2, 0, 1).is(1);
        v.states(61, 60);
        v.link(1, 9, 2).is(2);
        v.remove(0, 2).is(2);
        v.state(0).is(61);
        v.remove(1, 9).is(2);
        v.states(62, 60);
        v.remove(1, 3).is(3);
        v.states(64, 64);
        v.make(0, 9, false).is(2);
        v.write(2, 0, 0).is(0);
    }

    private static void fullLogTakesNone() {
        Volume v = fullLog();
        v.state(2).is(24);
        v.make(0, 9, false).is(FULL);
        v.link(0, 9, 2).is(FULL);
        v.remove(0, 2).is(FULL);
        v.move(0, 2, 1, 9).is(FULL);
        v.write(2, 0, 0).is(FULL);
        v.punch(2, 0, 1).is(FULL);
        v.sync().is(24);
        v.write(2, 0, 0).is(FULL);
        v.states(63, 63, 24, 24);
        v.checkpoint().is(24);
        v.write(2, 0, 0).is(0);
        v.state(2).is(1);
        Volume one = fullLog();
        one.crash(23).is(1);
        one.write(2, 1, 0).is(1);
        one.write(2, 2, 0).is(FULL);
    }

    private static void eachIsARecord() {
        Volume v = new Volume();
        v.make(0, 1, true).is(1);
        v.state(2).is(1);
        v.make(0, 2, false).is(2);
        v.state(2).is(2);
        v.link(1, 2, 2).is(2);
        v.state(2).is(3);
        v.remove(1, 2).is(2);
        v.state(2).is(4);
        v.move(0, 2, 0, 3).is(2);
        v.state(2).is(5);
        v.write(2, 0, 7).is(0);
        v.state(2).is(6);
        v.write(2, 0, 7).is(0);
        v.state(2).is(7);
        v.punch(2, 0, 1).is(1);
        v.state(2).is(8);
        v.punch(2, 0, 24).is(0);
        v.state(2).is(9);
        v.sync().is(9);
        v.state(2).is(9);
    }

    private static void refusedIsNoRecord() {
        Volume v = small();
        v.make(0, 64, false).is(REFUSED);
        v.make(0, 1, false).is(EXISTS);
        v.link(0, 9, 1).is(REFUSED);
        v.link(0, 1, 2).is(EXISTS);
        v.remove(0, 9).is(REFUSED);
        v.remove(0, 1).is(NOT_EMPTY);
        v.move(0, 9, 1, 9).is(REFUSED);
        v.move(0, 1, 0, 2).is(EXISTS);
        v.move(0, 1, 1, 9).is(LOOP);
        v.write(1, 0, 0).is(REFUSED);
        v.punch(2, 0, 0).is(REFUSED);
        v.state(2).is(3);
        v.sync().is(3);
        Volume full = fiveExtents();
        full.write(2, 10, 0).is(FULL);
        full.state(2).is(8);
        Volume directory = fullDirectory();
        directory.make(1, 30, false).is(FULL);
        directory.link(1, 30, 2).is(FULL);
        directory.move(0, 2, 1, 30).is(FULL);
        directory.state(2).is(0);
        Volume all = allBlocks();
        all.write(6, 0, 0).is(FULL);
        all.make(2, 40, true).is(FULL);
        all.state(2).is(0);
    }

    private static void safeRecords() {
        Volume v = small();
        v.state(3).is(0);
        v.sync().is(3);
        v.state(3).is(3);
        v.write(2, 0, 1).is(0);
        v.states(63, 63, 4, 3);
        v.sync().is(1);
        v.write(2, 0, 2).is(0);
        v.sync().is(1);
        v.write(2, 0, 3).is(0);
        v.states(63, 63, 6, 5);
        v.crash(0).is(1);
        v.read(2, 0).is(2);
    }

    private static void lostRecords() {
        for (int safe = 0; safe <= 24; safe += 6) {
            for (int others = 0; safe + others <= 24; others += others < 2 ? 1 : 11) {
                for (int j = 0; j <= 24; j++) {
                    loseSome(safe, others, j);
                }
            }
        }
    }

    private static void loseSome(int safe, int others, int j) {
        Volume v = new Volume();
        v.make(0, 1, false).is(1);
        v.checkpoint().is(1);
        for (int n = 1; n <= safe + others; n++) {
            v.write(1, 0, n).is(0);
            if (n == safe) {
                v.sync().is(safe);
            }
        }
        int left = safe + (j < others ? j : others);
        v.crash(j).is(safe + others - left);
        v.read(1, 0).is(left);
        v.state(2).is(left);
        v.state(3).is(left);
        v.state(0).is(left > 0 ? 63 : 64);
    }

    /** Each kind of record, behind what is safe. */
    private static Volume withRecordsOfAllKinds(boolean lost) {
        Volume v = smallWithBlocks();
        v.make(0, 9, true).is(4);
        v.write(2, 5, 20).is(4);
        v.sync().is(2);
        if (lost) {
            v.make(4, 1, true).is(5);
            v.make(5, 1, false).is(6);
            v.link(5, 2, 3).is(2);
            v.move(0, 1, 5, 3).is(1);
            v.write(6, 0, 77).is(5);
            v.write(2, 0, 78).is(0);
            v.punch(3, 0, 1).is(1);
            v.remove(0, 2).is(2);
            v.remove(5, 1).is(6);
            v.move(0, 9, 0, 8).is(4);
            v.crash(0).is(10);
        } else {
            v.crash(0).is(0);
        }
        return v;
    }

    private static void asIfTheyHadNotBeen() {
        Volume one = withRecordsOfAllKinds(true), other = withRecordsOfAllKinds(false);
        compare(one, other);
        one.make(4, 1, true).is(5);
        one.names(5);
        one.write(2, 6, 1).is(5);
        one.link(4, 2, 3).is(2);
        one.move(0, 9, 1, 9).is(4);
        Volume moved = twoBranches();
        moved.move(2, 5, 4, 5).is(3);
        moved.crash(0).is(1);
        moved.of(3, 4).is(2);
        moved.move(0, 5, 3, 0).is(LOOP);
        moved.move(0, 10, 3, 0).is(4);
        Volume held = small();
        held.write(2, 0, 5).is(0);
        held.checkpoint().is(4);
        held.write(3, 0, 77).is(1);
        held.crash(0).is(1);
        held.damage(2, 2, 0, 1).is(true);
        held.read(2, 0).is(0);
    }

    private static void leftInTheLog() {
        Volume v = smallInPlace();
        for (int n = 0; n < 5; n++) {
            v.write(2, 0, n).is(0);
        }
        v.crash(2).is(3);
        v.states(63, 63, 2, 2);
        v.damage(1, 0, 1, 0).is(false);
        v.mend().is(REFUSED);
        v.crash(0).is(0);
        v.sync().is(0);
        v.read(2, 0).is(1);
        v.write(2, 0, 9).is(0);
        v.crash(0).is(1);
        v.read(2, 0).is(1);
        v.checkpoint().is(2);
        Volume none = small();
        none.crash(0).is(3);
        none.states(64, 64, 0, 0, 1);
        none.damage(1, 0, 1, 0).is(true);
    }

    private static void damagedTakesNone() {
        Supplier<Volume> begin = BoundaryTests::smallDamaged;
        doesNothing(begin, v -> v.make(0, 9, false), REFUSED);
        doesNothing(begin, v -> v.make(0, 9, true), REFUSED);
        doesNothing(begin, v -> v.make(0, 1, true), REFUSED);
        doesNothing(begin, v -> v.link(0, 9, 2), REFUSED);
        doesNothing(begin, v -> v.link(0, 1, 2), REFUSED);
        doesNothing(begin, v -> v.remove(0, 2), REFUSED);
        doesNothing(begin, v -> v.remove(0, 1), REFUSED);
        doesNothing(begin, v -> v.move(0, 2, 1, 9), REFUSED);
        doesNothing(begin, v -> v.move(0, 2, 0, 1), REFUSED);
        doesNothing(begin, v -> v.move(0, 1, 1, 9), REFUSED);
        doesNothing(begin, v -> v.write(2, 0, 1), REFUSED);
        doesNothing(begin, v -> v.punch(2, 0, 1), REFUSED);
        Volume other = smallDamaged();
        other.sync().is(0);
        other.checkpoint().is(0);
        other.crash(0).is(0);
        other.crash(24).is(0);
        other.find(0, 2).is(2);
        other.state(5).is(1);
        other.damage(1, 63, 0, 0).is(true);
        other.states(64, 64, 0, 0, 4, 1);
        other.write(2, 0, 1).is(REFUSED);
    }

    private static void untilMended() {
        Volume v = smallDamaged();
        v.mends(0, 0, 0, 1, 0);
        v.make(0, 9, false).is(4);
        v.link(0, 10, 2).is(2);
        v.remove(0, 2).is(2);
        v.move(0, 10, 1, 9).is(2);
        v.write(2, 0, 1).is(0);
        v.punch(2, 0, 1).is(1);
        v.state(2).is(6);
        v.crash(0).is(6);
        v.states(64, 64, 0, 0, 4, 0);
    }

    // Mending, in its order.

    private static void mending() {
        holds("Mending (0)", "directories are gone through from the root on, each one's entries in order",
                BoundaryTests::mendInOrder);
        holds("Mending (0)", "a directory that is MET is gone through behind all that were met before it",
                BoundaryTests::mendInBreadth);
        holds("Mending (0)", "an entry goes if it names a FREE inode", BoundaryTests::entryOfFree);
        holds("Mending (0)", "an entry goes if it names the root", BoundaryTests::entryOfRoot);
        holds("Mending (0)", "an entry goes if it names a directory met before", BoundaryTests::entryOfMet);
        holds("Mending (0)", "else its inode is met", BoundaryTests::filesAreMetAgain);
        holds("Mending (0)", "the directory is the PARENT of a directory met so", BoundaryTests::parentOfMet);
        holds("Mending (1)", "each gets an entry in the root, named 48 and its number", BoundaryTests::namesOfNotMet);
        holds("Mending (1)", "and is met, as are those that it leads to, as in (0), before the next one",
                BoundaryTests::leadsTo);
        holds("Mending (1)", "Inodes, from 1 on", BoundaryTests::fromOneOn);
        holds("Mending (1)", "but if the root has that name, it becomes FREE", BoundaryTests::nameTaken);
        holds("Mending (1)", "or 10 entries", BoundaryTests::rootOfTen);
        holds("Mending (1)", "it becomes FREE: entries that name it go behind that", BoundaryTests::freedIsNamed);
        holds("Mending (1)", "it becomes FREE: what a directory had is not met by it", BoundaryTests::freedDirectory);
        holds("Mending (2)", "one that has a block in common with one before it goes: its positions are holes",
                BoundaryTests::sharedBlock);
        holds("Mending (2)", "Files by number, extents in order", BoundaryTests::sharedInOrder);
        holds("Mending (2)", "one before it (of any file)", BoundaryTests::sharedInOneFile);
        holds("Mending (2)", "an extent that went counts no more for those behind it", BoundaryTests::goneCountsNoMore);
        holds("Mending (3)", "Marks that are not as blocks are used change", BoundaryTests::marksChange);
        holds("Mending (4)", "LINKS that are not as many as entries", BoundaryTests::linksChange);
    }

    private static void mendInOrder() {
        Volume v = new Volume();
        v.make(0, 36, true).is(1);
        v.make(0, 17, true).is(2);
        v.checkpoint().is(2);
        v.damage(3, 0, 0, 1).is(true);
        v.mends(1, 1, 0, 0, 0);
        v.find(0, 17).is(1);
        v.find(0, 36).is(REFUSED);
        v.find(0, 50).is(2);
        v.names(0, 17, 50);
    }

    /** Root: 5 (directory 1) and 10 (directory 4); 1: directory 2; 2: directory 3; 4: file 5. */
    private static Volume twoBranches() {
        Volume v = new Volume();
        v.make(0, 5, true).is(1);
        v.make(1, 5, true).is(2);
        v.make(2, 5, true).is(3);
        v.make(0, 10, true).is(4);
        v.make(4, 10, false).is(5);
        v.checkpoint().is(5);
        return v;
    }

    private static void mendInBreadth() {
        Volume v = twoBranches();
        v.damage(3, 4, 0, 3).is(true);
        v.mends(1, 1, 0, 0, 0);
        v.find(4, 10).is(3);
        v.find(2, 5).is(REFUSED);
        v.find(0, 53).is(5);
    }

    private static void entryOfFree() {
        Volume v = smallInPlace();
        v.damage(3, 0, 0, 15).is(true);
        v.mends(1, 1, 0, 0, 0);
        v.names(0, 50, 1);
        Volume freed = smallInPlace();
        freed.damage(4, 3, 0, 0).is(true);
        freed.mends(1, 0, 0, 0, 0);
        freed.names(1);
    }

    private static void entryOfRoot() {
        Volume v = smallInPlace();
        v.damage(3, 1, 0, 0).is(true);
        v.mends(1, 1, 0, 0, 0);
        v.names(1);
        v.names(0, 2, 51, 1);
    }

    private static void entryOfMet() {
        Volume v = smallInPlace();
        v.damage(3, 1, 0, 1).is(true);
        v.mends(1, 1, 0, 0, 0);
        v.names(1);
        v.find(0, 51).is(3);
    }

    private static void filesAreMetAgain() {
        Volume v = smallInPlace();
        v.damage(3, 1, 0, 2).is(true);
        v.mends(0, 1, 0, 0, 1);
        v.find(1, 3).is(2);
        v.find(0, 2).is(2);
        v.find(0, 51).is(3);
        v.of(2, 1).is(2);
    }

    private static void parentOfMet() {
        Volume v = twoBranches();
        v.damage(3, 4, 0, 3).is(true);
        v.of(3, 4).is(2);
        v.mend().is(2);
        v.of(3, 4).is(4);
        v.of(2, 4).is(1);
        v.of(1, 4).is(0);
        v.of(0, 4).is(0);
        v.move(0, 10, 3, 0).is(LOOP);
        v.move(0, 5, 3, 0).is(1);
    }

    private static void namesOfNotMet() {
        Volume v = new Volume();
        v.make(0, 0, true).is(1);
        v.make(0, 1, true).is(2);
        for (int inode = 3; inode < 16; inode++) {
            v.make(inode < 13 ? 1 : 2, inode, inode == 15).is(inode);
        }
        v.checkpoint().is(15);
        v.damage(4, 2, 0, 0).is(true);
        v.mends(1, 3, 0, 0, 0);
        v.find(0, 61).is(13);
        v.find(0, 62).is(14);
        v.find(0, 63).is(15);
        v.of(15, 4).is(0);
        v.names(0, 62, 0, 61, 63);
        Volume first = new Volume();
        first.make(0, 1, true).is(1);
        first.checkpoint().is(1);
        first.damage(3, 0, 0, 1).is(true);
        first.damage(3, 0, 0, 0).is(true);
        first.mends(1, 1, 0, 0, 0);
        first.names(0, 49);
        first.find(0, 49).is(1);
    }

    private static void leadsTo() {
        Volume v = new Volume();
        v.make(0, 1, true).is(1);
        v.make(1, 1, true).is(2);
        v.make(2, 1, true).is(3);
        v.make(3, 1, true).is(4);
        v.make(3, 2, false).is(5);
        v.checkpoint().is(5);
        v.damage(3, 3, 1, 2).is(true);
        v.damage(4, 1, 0, 0).is(true);
        // 2 is not met and leads to 3, whose entries (2, then 1) name file 5 and now 2 in the place of 4.
        v.mends(2, 2, 0, 0, 0);
        v.names(0, 50, 52);
        v.names(3, 2);
        v.of(3, 4).is(2);
        v.of(4, 4).is(0);
    }

    private static void fromOneOn() {
        Volume v = new Volume();
        v.make(0, 1, true).is(1);
        v.make(0, 2, true).is(2);
        v.make(1, 3, true).is(3);
        v.move(0, 2, 3, 2).is(2);
        v.checkpoint().is(4);
        v.damage(4, 1, 0, 0).is(true);
        v.mends(2, 2, 0, 0, 0);
        v.names(0, 50, 51);
        v.names(3);
        v.of(2, 4).is(0);
        Volume file = new Volume();
        file.make(0, 1, true).is(1);
        file.make(0, 2, false).is(2);
        file.make(1, 3, true).is(3);
        file.move(0, 2, 3, 2).is(2);
        file.checkpoint().is(4);
        file.damage(4, 1, 0, 0).is(true);
        file.mends(1, 2, 0, 0, 1);
        file.names(0, 50, 51);
        file.find(3, 2).is(2);
        file.of(2, 1).is(2);
    }

    private static void nameTaken() {
        Volume v = new Volume();
        v.make(0, 50, false).is(1);
        v.make(0, 9, false).is(2);
        v.write(2, 0, 5).is(0);
        v.checkpoint().is(3);
        v.damage(3, 0, 1, 1).is(true);
        v.mends(0, 1, 0, 1, 1);
        v.of(2, 0).is(0);
        v.of(1, 1).is(2);
        v.find(0, 50).is(1);
        v.states(64, 64, 0, 0, 2, 0);
        v.make(0, 0, false).is(2);
        v.of(2, 2).is(0);
        v.of(2, 1).is(1);
    }

    private static void rootOfTen() {
        Volume nine = fullRoot();
        nine.damage(3, 0, 0, 15).is(true);
        nine.mends(1, 1, 0, 0, 0);
        nine.find(0, 54).is(6);
        nine.of(0, 2).is(10);
        Volume ten = fullRoot();
        ten.damage(3, 0, 0, 1).is(true);
        ten.mends(0, 1, 0, 0, 1);
        ten.of(6, 0).is(0);
        ten.of(0, 2).is(10);
        ten.of(1, 1).is(2);
        Volume both = fullRoot();
        both.damage(3, 0, 0, 15).is(true);
        both.damage(3, 0, 2, 6).is(true);
        both.damage(3, 0, 3, 6).is(true);
        // 5 goes; 0 is met as before; 7 and 2 name file 6 now, so that 8 and 3 are not met: 3 is the tenth.
        both.mends(1, 2, 0, 0, 1);
        both.find(0, 51).is(3);
        both.of(8, 0).is(0);
        both.of(6, 1).is(2);
        both.state(4).is(10);
    }

    private static void freedIsNamed() {
        Volume v = new Volume();
        v.make(0, 1, false).is(1);
        v.make(0, 2, true).is(2);
        v.move(0, 1, 2, 1).is(1);
        v.make(0, 49, false).is(3);
        v.checkpoint().is(4);
        v.damage(3, 0, 0, 3).is(true);
        v.mends(1, 2, 0, 0, 1);
        v.of(1, 0).is(0);
        v.find(0, 50).is(2);
        v.names(2);
        v.of(3, 1).is(2);
    }

    private static void freedDirectory() {
        Volume v = new Volume();
        v.make(0, 49, true).is(1);
        v.make(1, 1, true).is(2);
        v.make(1, 2, false).is(3);
        v.make(0, 2, false).is(4);
        v.link(0, 3, 3).is(2);
        v.checkpoint().is(5);
        // The root's order is 2, 49, 3; 49 names file 4 now. 1 becomes FREE; 2 is not met then, 3 was met in the root.
        v.damage(3, 0, 1, 4).is(true);
        v.mends(0, 2, 0, 0, 2);
        v.of(1, 0).is(0);
        v.find(0, 50).is(2);
        v.of(2, 4).is(0);
        v.of(3, 1).is(1);
        v.of(4, 1).is(2);
        v.make(2, 5, true).is(1);
        v.names(1);
    }

    private static void sharedBlock() {
        Volume apart = smallWithBlocks();
        apart.damage(2, 3, 0, 2).is(true);
        apart.mends(0, 0, 0, 0, 0);
        Volume one = smallWithBlocks();
        one.damage(2, 3, 0, 1).is(true);
        // Marks 0 .. 3 were; used are 0 and 1.
        one.mends(0, 0, 1, 2, 0);
        one.extents(2, 0, 0, 2);
        one.extents(3);
        one.read(3, 0).is(0);
        one.read(3, 1).is(0);
        one.of(3, 2).is(0);
        one.states(62, 62);
        Volume last = smallWithBlocks();
        last.damage(2, 2, 0, 62).is(true);
        last.damage(2, 3, 0, 62).is(true);
        last.mends(0, 0, 1, 6, 0);
        last.extents(2, 0, 62, 2);
        last.extents(3);
        Volume behind = smallWithBlocks();
        behind.damage(2, 2, 0, 3).is(true);
        // File 2 has 3 and 4 now, file 3 has 2 and 3: the lower file stays, though it was the damaged one.
        behind.mends(0, 0, 1, 4, 0);
        behind.extents(2, 0, 3, 2);
        behind.extents(3);
        behind.states(62, 59);
    }

    private static void sharedInOrder() {
        Volume v = new Volume();
        v.make(0, 0, true).is(1);
        v.make(0, 1, false).is(2);
        v.make(0, 2, false).is(3);
        v.write(3, 0, 30).is(0);
        v.write(3, 5, 31).is(1);
        v.write(2, 9, 20).is(2);
        v.write(2, 3, 21).is(3);
        v.checkpoint().is(7);
        // File 2: 3 (block 3), 9 (block 2, then 3); file 3: 0 (block 0, then 3), 5 (block 1).
        v.damage(2, 2, 1, 3).is(true);
        v.damage(2, 3, 0, 3).is(true);
        v.mends(0, 0, 2, 2, 0);
        v.extents(2, 3, 3, 1);
        v.extents(3, 5, 1, 1);
        v.read(2, 3).is(21);
        v.read(2, 9).is(0);
        v.read(3, 5).is(31);
    }

    private static void sharedInOneFile() {
        Volume v = small();
        for (int n = 0; n < 6; n++) {
            v.write(2, n, n).is(n);
        }
        v.punch(2, 2, 1).is(1);
        v.checkpoint().is(10);
        v.extents(2, 0, 0, 2, 3, 3, 3);
        v.damage(2, 2, 1, 1).is(true);
        v.mends(0, 0, 1, 3, 0);
        v.extents(2, 0, 0, 2);
        v.of(2, 2).is(2);
        Volume neighbours = small();
        neighbours.write(2, 5, 50).is(0);
        neighbours.write(2, 4, 40).is(1);
        neighbours.checkpoint().is(5);
        neighbours.damage(2, 2, 0, 0).is(true);
        neighbours.mends(0, 0, 1, 1, 0);
        neighbours.extents(2, 4, 0, 1);
        neighbours.read(2, 4).is(50);
    }

    private static void goneCountsNoMore() {
        Volume v = new Volume();
        for (int inode = 1; inode < 4; inode++) {
            v.make(0, inode, false).is(inode);
            v.write(inode, 0, inode).is(2 * inode - 2);
            v.write(inode, 1, inode).is(2 * inode - 1);
        }
        v.checkpoint().is(9);
        v.damage(2, 2, 0, 1).is(true);
        v.damage(2, 3, 0, 2).is(true);
        v.mends(0, 0, 1, 2, 0);
        v.extents(1, 0, 0, 2);
        v.extents(2);
        v.extents(3, 0, 2, 2);
        v.read(3, 0).is(2);
    }

    private static void marksChange() {
        Volume v = smallWithBlocks();
        v.damage(1, 0, 0, 0).is(true);
        v.damage(1, 3, 0, 0).is(true);
        v.damage(1, 4, 1, 0).is(true);
        v.damage(1, 63, 1, 0).is(true);
        v.damage(1, 1, 1, 0).is(true);
        v.damage(1, 62, 0, 0).is(true);
        v.states(60, 58);
        v.mends(0, 0, 0, 4, 0);
        v.states(60, 60);
        v.write(2, 2, 0).is(4);
        Volume all = smallInPlace();
        for (int block = 0; block < 64; block++) {
            all.damage(1, block, 1, 0).is(true);
        }
        all.states(0, 0);
        all.mends(0, 0, 0, 64, 0);
        all.states(64, 64);
    }

    private static void linksChange() {
        Volume v = smallInPlace();
        v.damage(0, 0, 9, 0).is(true);
        v.damage(0, 1, 0, 0).is(true);
        v.damage(0, 2, 2, 0).is(true);
        v.damage(0, 3, 1, 0).is(true);
        v.mends(0, 0, 0, 0, 3);
        v.of(0, 1).is(0);
        v.of(1, 1).is(1);
        v.of(2, 1).is(1);
        v.of(3, 1).is(1);
        v.remove(0, 2).is(2);
        v.of(2, 0).is(0);
        Volume many = fullDirectory();
        for (int k = 0; k < 10; k++) {
            many.damage(3, 1, k, 2).is(true);
        }
        // File 2 has eleven; 3, 4 and 5 are not met and get one each in the root (3 had eight).
        many.mends(0, 3, 0, 0, 2);
        many.of(2, 1).is(11);
        many.of(3, 1).is(1);
    }

    // Promises 1 to 10.

    private static void newObject() {
        holds("Promise 1", "The root, empty", BoundaryTests::emptyRoot);
        holds("Promise 1", "no block is marked, all hold 0", BoundaryTests::emptyBlocks);
        holds("Promise 1", "the log is empty; not damaged", BoundaryTests::emptyLog);
        holds("Promise 1", "A new object: none has to do with another", BoundaryTests::twoObjects);
    }

    private static void make() {
        holds("Promise 2", "its inode, the least that is FREE", BoundaryTests::leastFree);
        holds("Promise 2", "REFUSED if dir is no directory", () -> {
            for (int none : NO_INODE) {
                doesNothing(BoundaryTests::small, v -> v.make(none, 9, true), REFUSED);
            }
            doesNothing(BoundaryTests::small, v -> v.make(2, 9, false), REFUSED);
            doesNothing(BoundaryTests::small, v -> v.make(4, 9, false), REFUSED);
            doesNothing(BoundaryTests::small, v -> v.make(15, 9, false), REFUSED);
        });
        holds("Promise 2", "REFUSED if the name is none", () -> {
            for (int none : NO_NAME) {
                doesNothing(BoundaryTests::small, v -> v.make(0, none, true), REFUSED);
                doesNothing(BoundaryTests::small, v -> v.make(1, none, false), REFUSED);
            }
        });
        holds("Promise 2", "REFUSED if the volume is damaged", () -> {
            doesNothing(BoundaryTests::smallDamaged, v -> v.make(0, 9, true), REFUSED);
            doesNothing(BoundaryTests::smallDamaged, v -> v.make(1, 9, false), REFUSED);
        });
        holds("Promise 2", "EXISTS if there is such an entry", () -> {
            doesNothing(BoundaryTests::small, v -> v.make(0, 2, true), EXISTS);
            doesNothing(BoundaryTests::small, v -> v.make(0, 1, false), EXISTS);
            doesNothing(BoundaryTests::small, v -> v.make(1, 3, false), EXISTS);
            small().make(1, 2, false).is(4);
        });
        holds("Promise 2", "FULL if the directory is", () -> {
            doesNothing(BoundaryTests::fullDirectory, v -> v.make(1, 30, true), FULL);
            doesNothing(BoundaryTests::fullRoot, v -> v.make(0, 30, true), FULL);
            fullDirectory().make(0, 30, true).is(6);
        });
        holds("Promise 2", "FULL if the log is", () -> doesNothing(BoundaryTests::fullLog, v -> v.make(0, 9, true), FULL));
        holds("Promise 2", "FULL if all inodes are", () -> {
            doesNothing(BoundaryTests::allInodes, v -> v.make(2, 40, false), FULL);
            doesNothing(BoundaryTests::allInodes, v -> v.make(0, 40, true), FULL);
        });
    }

    private static void link() {
        holds("Promise 3", "One more entry for a file: its LINKS", BoundaryTests::moreLinks);
        holds("Promise 3", "REFUSED as for make", () -> {
            for (int none : NO_INODE) {
                doesNothing(BoundaryTests::small, v -> v.link(none, 9, 2), REFUSED);
            }
            for (int none : NO_NAME) {
                doesNothing(BoundaryTests::small, v -> v.link(0, none, 2), REFUSED);
            }
            doesNothing(BoundaryTests::small, v -> v.link(3, 9, 2), REFUSED);
            doesNothing(BoundaryTests::small, v -> v.link(4, 9, 2), REFUSED);
            doesNothing(BoundaryTests::smallDamaged, v -> v.link(0, 9, 2), REFUSED);
        });
        holds("Promise 3", "or if there is no such file", () -> {
            for (int none : NO_INODE) {
                doesNothing(BoundaryTests::small, v -> v.link(0, 9, none), REFUSED);
            }
            doesNothing(BoundaryTests::small, v -> v.link(0, 9, 0), REFUSED);
            doesNothing(BoundaryTests::small, v -> v.link(0, 9, 1), REFUSED);
            doesNothing(BoundaryTests::small, v -> v.link(0, 9, 4), REFUSED);
            doesNothing(BoundaryTests::small, v -> v.link(0, 9, 15), REFUSED);
        });
        holds("Promise 3", "or it has 9 or more", BoundaryTests::nineLinks);
        holds("Promise 3", "EXISTS likewise", () -> {
            doesNothing(BoundaryTests::small, v -> v.link(0, 2, 2), EXISTS);
            doesNothing(BoundaryTests::small, v -> v.link(0, 1, 3), EXISTS);
        });
        holds("Promise 3", "FULL likewise", () -> {
            doesNothing(BoundaryTests::fullDirectory, v -> v.link(1, 30, 2), FULL);
            doesNothing(BoundaryTests::fullLog, v -> v.link(1, 30, 2), FULL);
            allInodes().link(2, 40, 3).is(2);
        });
    }

    private static void emptyRoot() {
        Volume v = new Volume();
        v.of(0, 0).is(2);
        v.of(0, 1).is(0);
        v.of(0, 2).is(0);
        v.of(0, 4).is(0);
        v.names(0);
        v.state(4).is(1);
        for (int inode = 1; inode < 16; inode++) {
            v.of(inode, 0).is(0);
            v.of(inode, 1).is(REFUSED);
        }
        for (int name = 0; name < 64; name++) {
            v.find(0, name).is(REFUSED);
        }
    }

    private static void emptyBlocks() {
        Volume v = new Volume();
        v.states(64, 64);
        v.make(0, 0, false).is(1);
        v.write(1, 0, 7).is(0);
        v.checkpoint().is(2);
        for (int block = 1; block < 64; block++) {
            v.damage(2, 1, 0, block).is(true);
            v.read(1, 0).is(0);
        }
        v.damage(2, 1, 0, 0).is(true);
        v.read(1, 0).is(7);
    }

    private static void emptyLog() {
        Volume v = new Volume();
        v.states(64, 64, 0, 0, 1, 0);
        v.sync().is(0);
        v.checkpoint().is(0);
        v.crash(0).is(0);
        v.mends(0, 0, 0, 0, 0);
        v.make(0, 0, true).is(1);
    }

    private static void twoObjects() {
        Volume one = new Volume(), other = new Volume();
        one.make(0, 1, false).is(1);
        one.write(1, 0, 5).is(0);
        one.checkpoint().is(2);
        one.damage(1, 9, 1, 0).is(true);
        other.states(64, 64, 0, 0, 1, 0);
        other.names(0);
        other.make(0, 1, true).is(1);
        one.of(1, 0).is(1);
        one.read(1, 0).is(5);
    }

    private static void leastFree() {
        Volume v = allInodes();
        v.remove(1, 15).is(15);
        v.make(1, 15, true).is(15);
        v.of(15, 0).is(2);
        v.of(15, 4).is(1);
        v.remove(1, 15).is(15);
        v.remove(0, 3).is(3);
        v.remove(1, 9).is(9);
        v.make(2, 40, false).is(3);
        v.make(2, 41, false).is(9);
        v.make(2, 42, false).is(15);
        v.make(2, 43, false).is(FULL);
        v.find(2, 41).is(9);
    }

    private static void moreLinks() {
        Volume v = small();
        v.link(0, 0, 3).is(2);
        v.link(0, 63, 3).is(3);
        v.link(1, 0, 3).is(4);
        v.of(3, 1).is(4);
        v.find(0, 63).is(3);
        v.of(2, 1).is(1);
        v.state(4).is(4);
        v.remove(1, 3).is(3);
        v.of(3, 1).is(3);
        v.link(1, 3, 3).is(4);
    }

    private static void nineLinks() {
        Supplier<Volume> nine = () -> {
            Volume v = fullDirectory();
            v.of(3, 1).is(8);
            v.link(0, 30, 3).is(9);
            return v;
        };
        doesNothing(nine, v -> v.link(0, 31, 3), REFUSED);
        doesNothing(nine, v -> v.link(0, 30, 3), REFUSED);
        Volume less = nine.get();
        less.remove(1, 20).is(3);
        less.link(0, 31, 3).is(9);
        Supplier<Volume> eleven = () -> {
            Volume v = fullDirectory();
            for (int k = 0; k < 10; k++) {
                v.damage(3, 1, k, 2).is(true);
            }
            v.mend().is(5);
            v.of(2, 1).is(11);
            return v;
        };
        doesNothing(eleven, v -> v.link(0, 40, 2), REFUSED);
        Volume two = eleven.get();
        two.remove(1, 20).is(2);
        two.remove(1, 21).is(2);
        two.link(0, 40, 2).is(REFUSED);
        two.remove(1, 22).is(2);
        two.link(0, 40, 2).is(9);
    }

    private static void remove() {
        holds("Promise 4", "An entry goes: the inode that it named", BoundaryTests::entryGoes);
        holds("Promise 4", "REFUSED if dir or the name is none", () -> {
            for (int none : NO_INODE) {
                doesNothing(BoundaryTests::small, v -> v.remove(none, 2), REFUSED);
            }
            for (int none : NO_NAME) {
                doesNothing(BoundaryTests::small, v -> v.remove(0, none), REFUSED);
            }
            doesNothing(BoundaryTests::small, v -> v.remove(2, 3), REFUSED);
            doesNothing(BoundaryTests::small, v -> v.remove(4, 3), REFUSED);
        });
        holds("Promise 4", "REFUSED if there is no such entry", () -> {
            doesNothing(BoundaryTests::small, v -> v.remove(0, 3), REFUSED);
            doesNothing(BoundaryTests::small, v -> v.remove(1, 1), REFUSED);
            new Volume().remove(0, 0).is(REFUSED);
        });
        holds("Promise 4", "REFUSED if the volume is damaged",
                () -> doesNothing(BoundaryTests::smallDamaged, v -> v.remove(0, 2), REFUSED));
        holds("Promise 4", "NOT_EMPTY if it names a directory with entries", () -> {
            doesNothing(BoundaryTests::small, v -> v.remove(0, 1), NOT_EMPTY);
            Volume v = small();
            v.remove(1, 3).is(3);
            v.remove(0, 1).is(1);
            v.of(1, 0).is(0);
        });
        holds("Promise 4", "FULL if the log is", () -> doesNothing(BoundaryTests::fullLog, v -> v.remove(0, 2), FULL));
        holds("Promise 4", "With the last of its LINKS an inode is FREE", BoundaryTests::lastLink);
    }

    private static void move() {
        holds("Promise 5", "An entry goes into another directory (or the same), with another name: the inode",
                BoundaryTests::moves);
        holds("Promise 5", "REFUSED as for remove", () -> {
            for (int none : NO_INODE) {
                doesNothing(BoundaryTests::small, v -> v.move(none, 2, 1, 9), REFUSED);
            }
            for (int none : NO_NAME) {
                doesNothing(BoundaryTests::small, v -> v.move(0, none, 1, 9), REFUSED);
            }
            doesNothing(BoundaryTests::small, v -> v.move(2, 2, 1, 9), REFUSED);
            doesNothing(BoundaryTests::small, v -> v.move(0, 3, 1, 9), REFUSED);
            doesNothing(BoundaryTests::small, v -> v.move(4, 2, 1, 9), REFUSED);
            doesNothing(BoundaryTests::smallDamaged, v -> v.move(0, 2, 1, 9), REFUSED);
        });
        holds("Promise 5", "or if to or other is none", () -> {
            for (int none : NO_INODE) {
                doesNothing(BoundaryTests::small, v -> v.move(0, 2, none, 9), REFUSED);
            }
            for (int none : NO_NAME) {
                doesNothing(BoundaryTests::small, v -> v.move(0, 2, 1, none), REFUSED);
            }
            doesNothing(BoundaryTests::small, v -> v.move(0, 2, 3, 9), REFUSED);
            doesNothing(BoundaryTests::small, v -> v.move(0, 2, 2, 9), REFUSED);
            doesNothing(BoundaryTests::small, v -> v.move(0, 2, 4, 9), REFUSED);
        });
        holds("Promise 5", "EXISTS if to has such an entry", () -> {
            doesNothing(BoundaryTests::small, v -> v.move(0, 2, 1, 3), EXISTS);
            doesNothing(BoundaryTests::small, v -> v.move(0, 2, 0, 1), EXISTS);
            doesNothing(BoundaryTests::small, v -> v.move(0, 2, 0, 2), EXISTS);
            doesNothing(BoundaryTests::small, v -> v.move(0, 1, 1, 3), EXISTS);
            small().move(0, 2, 1, 1).is(2);
        });
        holds("Promise 5", "LOOP if it names a directory that is to, or above it", BoundaryTests::loops);
        holds("Promise 5", "FULL if to (another one) is", () -> {
            doesNothing(BoundaryTests::fullDirectory, v -> v.move(0, 2, 1, 30), FULL);
            Volume v = fullDirectory();
            v.move(1, 29, 1, 30).is(3);
            v.of(1, 2).is(10);
            v.move(1, 30, 0, 30).is(3);
            v.move(0, 2, 1, 30).is(2);
            v.of(1, 2).is(10);
        });
        holds("Promise 5", "FULL if the log is", () -> {
            doesNothing(BoundaryTests::fullLog, v -> v.move(0, 2, 1, 9), FULL);
            doesNothing(BoundaryTests::fullLog, v -> v.move(0, 2, 0, 9), FULL);
        });
    }

    private static void entryGoes() {
        Volume v = small();
        v.link(1, 9, 2).is(2);
        v.remove(0, 2).is(2);
        v.find(0, 2).is(REFUSED);
        v.find(1, 9).is(2);
        v.names(0, 1);
        v.remove(0, 2).is(REFUSED);
        v.remove(1, 9).is(2);
        v.names(1, 3);
    }

    private static void lastLink() {
        Volume v = smallWithBlocks();
        v.link(1, 9, 2).is(2);
        v.remove(1, 9).is(2);
        v.of(2, 0).is(1);
        v.of(2, 1).is(1);
        v.read(2, 1).is(11);
        v.remove(0, 2).is(2);
        v.of(2, 0).is(0);
        v.of(2, 1).is(REFUSED);
        v.read(2, 1).is(0);
        v.extent(2, 0, 0).is(REFUSED);
        v.state(4).is(3);
        v.read(3, 0).is(12);
        v.make(0, 2, false).is(2);
        v.of(2, 1).is(1);
        v.of(2, 2).is(0);
        v.make(0, 4, true).is(4);
        v.remove(0, 4).is(4);
        v.of(4, 0).is(0);
        v.make(0, 5, false).is(4);
        v.of(4, 0).is(1);
        Volume ends = smallInPlace();
        ends.write(2, 23, 5).is(0);
        ends.write(3, 0, 6).is(1);
        ends.write(3, 23, 7).is(2);
        ends.remove(1, 3).is(3);
        ends.states(63, 63);
        ends.read(2, 23).is(5);
    }

    private static void moves() {
        Volume v = small();
        v.move(0, 2, 1, 63).is(2);
        v.find(0, 2).is(REFUSED);
        v.find(1, 63).is(2);
        v.of(2, 1).is(1);
        v.of(2, 4).is(REFUSED);
        v.move(1, 63, 1, 0).is(2);
        v.names(1, 0, 3);
        v.make(0, 9, true).is(4);
        v.move(0, 1, 4, 1).is(1);
        v.of(1, 4).is(4);
        v.of(1, 1).is(1);
        v.names(0, 9);
        v.find(1, 3).is(3);
        v.move(4, 1, 0, 1).is(1);
        v.of(1, 4).is(0);
        v.names(4);
    }

    private static void loops() {
        Supplier<Volume> deep = () -> {
            Volume v = new Volume();
            v.make(0, 0, true).is(1);
            for (int inode = 2; inode < 16; inode++) {
                v.make(inode - 1, 0, true).is(inode);
            }
            return v;
        };
        doesNothing(deep, v -> v.move(0, 0, 1, 9), LOOP);
        doesNothing(deep, v -> v.move(0, 0, 2, 9), LOOP);
        doesNothing(deep, v -> v.move(0, 0, 15, 9), LOOP);
        doesNothing(deep, v -> v.move(13, 0, 15, 9), LOOP);
        doesNothing(deep, v -> v.move(14, 0, 15, 9), LOOP);
        Volume v = deep.get();
        v.move(14, 0, 14, 9).is(15);
        v.move(14, 9, 0, 9).is(15);
        v.of(15, 4).is(0);
        v.move(0, 0, 15, 0).is(1);
        v.of(1, 4).is(15);
        v.move(0, 9, 14, 1).is(LOOP);
        v.move(13, 0, 15, 1).is(14);
        v.move(0, 9, 13, 1).is(LOOP);
        Volume file = small();
        file.move(1, 3, 0, 9).is(3);
        file.move(0, 9, 1, 9).is(3);
    }

    private static void write() {
        holds("Promise 6", "The block of a position holds v; a block is chosen if it is a hole: the block",
                BoundaryTests::writes);
        holds("Promise 6", "REFUSED if there is no such file", () -> {
            for (int none : NO_INODE) {
                doesNothing(BoundaryTests::small, v -> v.write(none, 0, 1), REFUSED);
            }
            doesNothing(BoundaryTests::small, v -> v.write(0, 0, 1), REFUSED);
            doesNothing(BoundaryTests::small, v -> v.write(1, 0, 1), REFUSED);
            doesNothing(BoundaryTests::small, v -> v.write(4, 0, 1), REFUSED);
        });
        holds("Promise 6", "REFUSED if there is no such position", () -> {
            for (int none : NO_POSITION) {
                doesNothing(BoundaryTests::smallWithBlocks, v -> v.write(2, none, 1), REFUSED);
            }
        });
        holds("Promise 6", "REFUSED if the volume is damaged",
                () -> doesNothing(BoundaryTests::smallDamaged, v -> v.write(2, 0, 1), REFUSED));
        holds("Promise 6", "FULL if the log is", () -> {
            doesNothing(BoundaryTests::fullLog, v -> v.write(2, 0, 1), FULL);
            doesNothing(BoundaryTests::fullLog, v -> v.write(2, 1, 1), FULL);
        });
        holds("Promise 6", "FULL if the position is a hole and all blocks are marked", () -> {
            doesNothing(BoundaryTests::allBlocks, v -> v.write(6, 0, 1), FULL);
            doesNothing(BoundaryTests::allBlocks, v -> v.write(5, 16, 1), FULL);
            Volume v = allBlocks();
            v.write(5, 15, 1).is(63);
            v.punch(3, 9, 1).is(1);
            v.write(6, 0, 1).is(9);
            v.write(6, 1, 1).is(FULL);
        });
        holds("Promise 6", "FULL if the file would have a sixth extent", BoundaryTests::sixthOfWrite);
    }

    private static void punch() {
        holds("Promise 7", "Positions from .. from + many - 1 become holes: how many were none", BoundaryTests::punches);
        holds("Promise 7", "REFUSED as for write", () -> {
            for (int none : NO_INODE) {
                doesNothing(BoundaryTests::smallWithBlocks, v -> v.punch(none, 0, 1), REFUSED);
            }
            for (int none : NO_POSITION) {
                doesNothing(BoundaryTests::smallWithBlocks, v -> v.punch(2, none, 1), REFUSED);
                doesNothing(BoundaryTests::smallWithBlocks, v -> v.punch(2, none, 2), REFUSED);
            }
            doesNothing(BoundaryTests::smallWithBlocks, v -> v.punch(1, 0, 1), REFUSED);
            doesNothing(BoundaryTests::smallWithBlocks, v -> v.punch(4, 0, 1), REFUSED);
            doesNothing(BoundaryTests::smallDamaged, v -> v.punch(2, 0, 1), REFUSED);
        });
        holds("Promise 7", "or if many is below 1", () -> {
            for (int many : new int[] {0, -1, -24, LEAST}) {
                doesNothing(BoundaryTests::smallWithBlocks, v -> v.punch(2, 0, many), REFUSED);
                doesNothing(BoundaryTests::smallWithBlocks, v -> v.punch(2, 23, many), REFUSED);
            }
        });
        holds("Promise 7", "or beyond", () -> {
            doesNothing(BoundaryTests::smallWithBlocks, v -> v.punch(2, 0, 25), REFUSED);
            doesNothing(BoundaryTests::smallWithBlocks, v -> v.punch(2, 1, 24), REFUSED);
            doesNothing(BoundaryTests::smallWithBlocks, v -> v.punch(2, 23, 2), REFUSED);
            doesNothing(BoundaryTests::smallWithBlocks, v -> v.punch(2, 0, MOST), REFUSED);
            doesNothing(BoundaryTests::smallWithBlocks, v -> v.punch(2, 23, MOST), REFUSED);
            doesNothing(BoundaryTests::smallWithBlocks, v -> v.punch(2, 1, MOST), REFUSED);
            smallWithBlocks().punch(2, 0, 24).is(2);
            smallWithBlocks().punch(2, 1, 23).is(1);
            smallWithBlocks().punch(2, 23, 1).is(0);
        });
        holds("Promise 7", "FULL if the log is", () -> {
            doesNothing(BoundaryTests::fullLog, v -> v.punch(2, 0, 1), FULL);
            doesNothing(BoundaryTests::fullLog, v -> v.punch(2, 9, 1), FULL);
        });
        holds("Promise 7", "FULL if the file would have a sixth extent", BoundaryTests::sixthOfPunch);
    }

    private static void writes() {
        Volume v = small();
        v.write(2, 0, 0).is(0);
        v.of(2, 2).is(1);
        v.read(2, 0).is(0);
        v.write(2, 0, LEAST).is(0);
        v.read(2, 0).is(LEAST);
        v.write(2, 23, MOST).is(1);
        v.read(2, 23).is(MOST);
        v.write(2, 0, -1).is(0);
        v.of(2, 2).is(2);
        v.state(0).is(62);
        v.punch(2, 0, 1).is(1);
        v.read(2, 0).is(0);
        v.write(2, 0, 3).is(2);
    }

    private static void sixthOfWrite() {
        doesNothing(BoundaryTests::fiveExtents, v -> v.write(2, 10, 9), FULL);
        doesNothing(BoundaryTests::fiveExtents, v -> v.write(2, 23, 9), FULL);
        doesNothing(BoundaryTests::fiveExtents, v -> v.write(2, 1, 9), FULL);
        Volume v = fiveExtents();
        v.write(2, 9, 9).is(5);
        v.extents(2, 0, 0, 1, 2, 1, 1, 4, 2, 1, 6, 3, 1, 8, 4, 2);
        v.write(2, 0, 9).is(0);
        Volume before = small();
        before.write(3, 0, 0).is(0);
        before.write(3, 1, 0).is(1);
        for (int n = 0; n < 5; n++) {
            before.write(2, 2 * n + 1, n).is(n + 2);
        }
        before.punch(3, 1, 1).is(1);
        // The block before that of position 1 is unmarked: one more of the first extent is no sixth.
        before.write(2, 0, 9).is(1);
        before.of(2, 3).is(5);
        Volume held = fiveExtents();
        held.write(2, 10, 77).is(FULL);
        held.checkpoint().is(8);
        held.damage(2, 2, 0, 5).is(true);
        held.read(2, 0).is(0);
    }

    private static void punches() {
        Volume v = small();
        for (int n = 2; n < 10; n++) {
            v.write(2, n, n).is(n - 2);
        }
        v.punch(2, 0, 3).is(1);
        v.read(2, 2).is(0);
        v.read(2, 3).is(3);
        v.punch(2, 9, 15).is(1);
        v.read(2, 9).is(0);
        v.read(2, 8).is(8);
        v.punch(2, 4, 2).is(2);
        v.extents(2, 3, 1, 1, 6, 4, 3);
        v.punch(2, 4, 2).is(0);
        v.punch(2, 0, 24).is(4);
        v.of(2, 2).is(0);
        v.extents(2);
        v.punch(2, 0, 24).is(0);
        v.states(64, 64);
    }

    private static void sixthOfPunch() {
        Supplier<Volume> five = () -> {
            Volume v = small();
            for (int n = 0; n < 12; n++) {
                v.write(2, n, n).is(n);
            }
            for (int n = 1; n < 9; n += 2) {
                v.punch(2, n, 1).is(1);
            }
            v.of(2, 3).is(5);
            return v;
        };
        doesNothing(five, v -> v.punch(2, 9, 1), FULL);
        doesNothing(five, v -> v.punch(2, 9, 2), FULL);
        doesNothing(five, v -> v.punch(2, 10, 1), FULL);
        Volume v = five.get();
        v.punch(2, 8, 1).is(1);
        v.punch(2, 11, 1).is(1);
        v.of(2, 3).is(5);
        v.punch(2, 9, 2).is(2);
        v.of(2, 3).is(4);
        Volume across = five.get();
        across.punch(2, 6, 4).is(3);
        across.extents(2, 0, 0, 1, 2, 2, 1, 4, 4, 1, 10, 10, 2);
    }

    private static void sync() {
        holds("Promise 8", "All records are safe: how many were not", () -> {
            new Volume().sync().is(0);
            Volume v = small();
            v.sync().is(3);
            v.sync().is(0);
            v.write(2, 0, 1).is(0);
            v.sync().is(1);
            v.state(3).is(4);
            fullLog().sync().is(24);
            smallDamaged().sync().is(0);
        });
        holds("Promise 8", "All records are safe: a crash loses none", () -> {
            Volume v = fullLog();
            v.sync().is(24);
            v.crash(0).is(0);
            v.states(63, 63, 24, 24, 4);
            v.read(2, 0).is(20);
        });
    }

    private static void checkpoint() {
        holds("Promise 9", "the log is empty: how many records it had", () -> {
            new Volume().checkpoint().is(0);
            Volume v = fullLog();
            v.checkpoint().is(24);
            v.states(63, 63, 0, 0);
            v.checkpoint().is(0);
            Volume part = small();
            part.sync().is(3);
            part.write(2, 0, 1).is(0);
            part.checkpoint().is(4);
            part.states(63, 63, 0, 0);
            part.sync().is(0);
        });
        holds("Promise 9", "All is in place", () -> {
            Volume v = small();
            v.write(2, 0, 1).is(0);
            v.checkpoint().is(4);
            v.crash(0).is(0);
            v.read(2, 0).is(1);
            v.write(2, 0, 2).is(0);
            v.crash(0).is(1);
            v.read(2, 0).is(1);
            v.states(63, 63, 0, 0, 4);
        });
        holds("Promise 9", "the log is empty: the 24 behind it can be lost as well", () -> {
            Volume v = fullLog();
            v.checkpoint().is(24);
            for (int n = 0; n < 24; n++) {
                v.write(2, n % 3, 100 + n).is(n % 3);
            }
            v.write(2, 0, 0).is(FULL);
            v.crash(0).is(24);
            v.read(2, 0).is(20);
            v.of(2, 2).is(1);
        });
    }

    private static void crash() {
        holds("Promise 10", "A crash with j (0 .. 24): how many records were lost", () -> {
            fullLog().crash(0).is(24);
            fullLog().crash(1).is(23);
            fullLog().crash(23).is(1);
            fullLog().crash(24).is(0);
            new Volume().crash(0).is(0);
            new Volume().crash(24).is(0);
            small().crash(3).is(0);
            small().crash(2).is(1);
            small().crash(4).is(0);
            smallDamaged().crash(0).is(0);
        });
        holds("Promise 10", "REFUSED for another j", () -> {
            for (int j : new int[] {-1, 25, 48, LEAST, MOST}) {
                doesNothing(BoundaryTests::small, v -> v.crash(j), REFUSED);
                doesNothing(BoundaryTests::fullLog, v -> v.crash(j), REFUSED);
                doesNothing(BoundaryTests::smallDamaged, v -> v.crash(j), REFUSED);
            }
        });
    }

    // Promises 11 to 20.

    private static void damage() {
        holds("Promise 11", "if the log is empty (false else)", () -> {
            Supplier<Volume> synced = () -> {
                Volume v = small();
                v.sync().is(3);
                return v;
            };
            for (int what = 0; what < 5; what++) {
                int kind = what;
                doesNothing(BoundaryTests::small, v -> v.damage(kind, 1, 0, 0), 0);
                doesNothing(synced, v -> v.damage(kind, 1, 1, 1), 0);
                doesNothing(synced, v -> v.damage(kind, 1, 0, 0), 0);
            }
            Volume v = small();
            v.checkpoint().is(3);
            v.write(2, 0, 1).is(0);
            v.damage(0, 1, 0, 0).is(false);
            v.checkpoint().is(1);
            v.damage(0, 1, 0, 0).is(true);
        });
        holds("Promise 11", "false if a number is not as said: what", () -> {
            for (int none : new int[] {-1, 5, 6, LEAST, MOST}) {
                doesNothing(BoundaryTests::smallWithBlocks, v -> v.damage(none, 2, 0, 0), 0);
            }
        });
        holds("Promise 11", "what 0: LINKS of inode a, that is not FREE, become b (0 .. 9)", BoundaryTests::damageLinks);
        holds("Promise 11", "1: block a is marked (b 1), or not (0)", BoundaryTests::damageMarks);
        holds("Promise 11", "2: extent b of file a is mapped to blocks from c on, as many", BoundaryTests::damageExtents);
        holds("Promise 11", "3: entry b (0 first) of directory a names inode c", BoundaryTests::damageEntries);
        holds("Promise 11", "4: inode a (not 0 nor FREE) is FREE (marks stay)", BoundaryTests::damageInodes);
        holds("Promise 11", "false if a number is not as said: those not named may be any", () -> {
            for (int any : new int[] {0, -1, 99, LEAST, MOST}) {
                smallWithBlocks().damage(0, 2, 1, any).is(true);
                smallWithBlocks().damage(1, 2, 1, any).is(true);
                smallWithBlocks().damage(4, 2, any, any).is(true);
            }
        });
    }

    private static void mend() {
        holds("Promise 12", "how many, all together", () -> {
            Volume v = smallWithBlocks();
            v.damage(3, 0, 0, 9).is(true);
            v.damage(2, 3, 0, 0).is(true);
            v.damage(1, 63, 1, 0).is(true);
            v.damage(0, 1, 7, 0).is(true);
            v.mends(1, 1, 1, 3, 1);
            v.mends(0, 0, 0, 0, 0);
        });
        holds("Promise 12", "Then it is not damaged", () -> {
            Volume v = smallDamaged();
            v.damage(1, 63, 0, 0).is(true);
            v.state(5).is(1);
            v.mends(0, 0, 0, 0, 0);
            v.write(2, 0, 1).is(0);
        });
        holds("Promise 12", "Mends a volume: one that is not damaged as well", () -> {
            smallWithBlocks().mends(0, 0, 0, 0, 0);
            allBlocks().mends(0, 0, 0, 0, 0);
            fullDirectory().mends(0, 0, 0, 0, 0);
            manyEntries().mends(0, 0, 0, 0, 0);
            new Volume().mends(0, 0, 0, 0, 0);
        });
        holds("Promise 12", "REFUSED if the log is not empty", () -> {
            doesNothing(BoundaryTests::small, Volume::mend, REFUSED);
            doesNothing(() -> {
                Volume v = smallDamaged();
                v.mend().is(1);
                v.write(2, 0, 1).is(0);
                v.sync().is(1);
                return v;
            }, Volume::mend, REFUSED);
            Volume v = small();
            v.crash(0).is(3);
            v.mends(0, 0, 0, 0, 0);
        });
    }

    private static void mended() {
        holds("Promise 13", "The number of kind k (0 .. 4) of the latest mending", () -> {
            Volume v = smallDamaged();
            v.mends(0, 0, 0, 1, 0);
            v.damage(0, 2, 5, 0).is(true);
            v.mended(3).is(1);
            v.mended(4).is(0);
            v.mends(0, 0, 0, 0, 1);
            v.write(2, 0, 1).is(0);
            v.mend().is(REFUSED);
            v.mended(4).is(1);
            v.crash(0).is(1);
            v.mended(4).is(1);
            v.mends(0, 0, 0, 0, 0);
        });
        holds("Promise 13", "REFUSED for another k", () -> {
            for (int none : new int[] {-1, 5, 6, LEAST, MOST}) {
                new Volume().mended(none).is(REFUSED);
                Volume v = smallDamaged();
                v.mend().is(1);
                v.mended(none).is(REFUSED);
            }
        });
        holds("Promise 13", "0 if there was none", () -> {
            for (int k = 0; k < 5; k++) {
                new Volume().mended(k).is(0);
                smallDamaged().mended(k).is(0);
            }
        });
    }

    private static void damageLinks() {
        for (int none : NO_INODE) {
            doesNothing(BoundaryTests::smallWithBlocks, v -> v.damage(0, none, 1, 0), 0);
        }
        for (int none : new int[] {-1, 10, 11, LEAST, MOST}) {
            doesNothing(BoundaryTests::smallWithBlocks, v -> v.damage(0, 2, none, 0), 0);
        }
        doesNothing(BoundaryTests::smallWithBlocks, v -> v.damage(0, 4, 1, 0), 0);
        doesNothing(BoundaryTests::smallWithBlocks, v -> v.damage(0, 15, 0, 0), 0);
        Volume v = smallWithBlocks();
        for (int inode = 0; inode < 4; inode++) {
            v.damage(0, inode, 9, 0).is(true);
            v.of(inode, 1).is(9);
            v.damage(0, inode, 0, 0).is(true);
            v.of(inode, 1).is(0);
        }
        v.state(5).is(1);
        Volume last = allInodes();
        last.damage(0, 15, 3, 0).is(true);
        last.of(15, 1).is(3);
        Volume same = smallWithBlocks();
        same.damage(0, 2, 1, 0).is(true);
        same.state(5).is(1);
    }

    private static void damageMarks() {
        for (int none : NO_BLOCK) {
            doesNothing(BoundaryTests::smallWithBlocks, v -> v.damage(1, none, 1, 0), 0);
            doesNothing(BoundaryTests::smallWithBlocks, v -> v.damage(1, none, 0, 0), 0);
        }
        for (int none : new int[] {-1, 2, 3, LEAST, MOST}) {
            doesNothing(BoundaryTests::smallWithBlocks, v -> v.damage(1, 9, none, 0), 0);
        }
        Volume v = smallWithBlocks();
        v.damage(1, 0, 0, 0).is(true);
        v.states(61, 60);
        v.damage(1, 63, 1, 0).is(true);
        v.states(60, 59, 0, 0, 4, 1);
        v.damage(1, 63, 1, 0).is(true);
        v.damage(1, 0, 0, 0).is(true);
        v.states(60, 59);
        v.damage(1, 63, 0, 0).is(true);
        v.damage(1, 0, 1, 0).is(true);
        v.states(60, 60, 0, 0, 4, 1);
        Volume same = smallWithBlocks();
        same.damage(1, 0, 1, 0).is(true);
        same.state(5).is(1);
    }

    private static void damageExtents() {
        for (int none : NO_INODE) {
            doesNothing(BoundaryTests::smallWithBlocks, v -> v.damage(2, none, 0, 0), 0);
        }
        for (int none : new int[] {-1, 1, 2, LEAST, MOST}) {
            doesNothing(BoundaryTests::smallWithBlocks, v -> v.damage(2, 2, none, 0), 0);
        }
        for (int none : NO_BLOCK) {
            doesNothing(BoundaryTests::smallWithBlocks, v -> v.damage(2, 2, 0, none), 0);
        }
        doesNothing(BoundaryTests::smallWithBlocks, v -> v.damage(2, 2, 0, 63), 0);
        doesNothing(BoundaryTests::smallWithBlocks, v -> v.damage(2, 0, 0, 0), 0);
        doesNothing(BoundaryTests::smallWithBlocks, v -> v.damage(2, 1, 0, 0), 0);
        doesNothing(BoundaryTests::smallWithBlocks, v -> v.damage(2, 4, 0, 0), 0);
        doesNothing(BoundaryTests::smallInPlace, v -> v.damage(2, 2, 0, 0), 0);
        doesNothing(BoundaryTests::allBlocks, v -> v.damage(2, 3, 0, 41), 0);
        Volume v = smallWithBlocks();
        v.damage(2, 2, 0, 62).is(true);
        v.extents(2, 0, 62, 2);
        v.read(2, 0).is(0);
        v.states(60, 60, 0, 0, 4, 1);
        v.damage(2, 2, 0, 2).is(true);
        v.read(2, 0).is(12);
        v.read(2, 1).is(13);
        v.read(3, 0).is(12);
        v.damage(2, 2, 0, 0).is(true);
        v.read(2, 1).is(11);
        Volume whole = allBlocks();
        whole.damage(2, 3, 0, 40).is(true);
        whole.extents(3, 0, 40, 24);
        whole.read(3, 23).is(1063);
        Volume last = fiveExtents();
        last.checkpoint().is(8);
        last.damage(2, 2, 4, 63).is(true);
        last.damage(2, 2, 5, 63).is(false);
        last.extents(2, 0, 0, 1, 2, 1, 1, 4, 2, 1, 6, 3, 1, 8, 63, 1);
    }

    private static void damageEntries() {
        for (int none : NO_INODE) {
            doesNothing(BoundaryTests::smallWithBlocks, v -> v.damage(3, none, 0, 1), 0);
            doesNothing(BoundaryTests::smallWithBlocks, v -> v.damage(3, 0, 0, none), 0);
        }
        for (int none : new int[] {-1, 2, 3, 64, LEAST, MOST}) {
            doesNothing(BoundaryTests::smallWithBlocks, v -> v.damage(3, 0, none, 1), 0);
        }
        doesNothing(BoundaryTests::smallWithBlocks, v -> v.damage(3, 2, 0, 1), 0);
        doesNothing(BoundaryTests::smallWithBlocks, v -> v.damage(3, 4, 0, 1), 0);
        new Volume().damage(3, 0, 0, 0).is(false);
        Volume v = smallWithBlocks();
        v.damage(3, 0, 0, 15).is(true);
        v.find(0, 2).is(15);
        v.entry(0, 0, 1).is(15);
        v.damage(3, 0, 1, 0).is(true);
        v.find(0, 1).is(0);
        v.of(0, 1).is(0);
        v.damage(3, 1, 0, 1).is(true);
        v.find(1, 3).is(1);
        v.of(1, 4).is(0);
        v.names(0, 2, 1);
        Volume ten = fullDirectory();
        ten.damage(3, 1, 9, 5).is(true);
        ten.find(1, 29).is(5);
        ten.damage(3, 1, 10, 5).is(false);
    }

    private static void damageInodes() {
        for (int none : NO_INODE) {
            doesNothing(BoundaryTests::smallWithBlocks, v -> v.damage(4, none, 0, 0), 0);
        }
        doesNothing(BoundaryTests::smallWithBlocks, v -> v.damage(4, 0, 0, 0), 0);
        doesNothing(BoundaryTests::smallWithBlocks, v -> v.damage(4, 4, 0, 0), 0);
        doesNothing(BoundaryTests::smallWithBlocks, v -> v.damage(4, 15, 0, 0), 0);
        Volume v = smallWithBlocks();
        v.damage(4, 2, 0, 0).is(true);
        v.of(2, 0).is(0);
        v.of(2, 1).is(REFUSED);
        v.read(2, 0).is(0);
        v.states(60, 60, 0, 0, 3, 1);
        v.find(0, 2).is(2);
        v.damage(4, 2, 0, 0).is(false);
        v.damage(4, 1, 0, 0).is(true);
        v.find(1, 3).is(REFUSED);
        v.entry(1, 0, 0).is(REFUSED);
        v.mends(2, 1, 0, 2, 0);
        v.names(0, 51);
        v.states(62, 60, 0, 0, 2, 0);
        Volume files = new Volume();
        for (int inode = 1; inode < 4; inode++) {
            files.make(0, inode, false).is(inode);
            files.write(inode, 0, inode).is(2 * inode - 2);
            files.write(inode, 23, -inode).is(2 * inode - 1);
        }
        files.checkpoint().is(9);
        files.mends(0, 0, 0, 0, 0);
        files.damage(4, 2, 0, 0).is(true);
        files.mends(1, 0, 0, 2, 0);
        for (int inode = 1; inode < 4; inode += 2) {
            files.read(inode, 0).is(inode);
            files.read(inode, 23).is(-inode);
        }
        files.damage(4, 1, 0, 0).is(true);
        files.mends(1, 0, 0, 2, 0);
        files.make(0, 1, false).is(1);
        files.make(0, 2, false).is(2);
        files.extents(1);
        files.extents(2);
        files.of(3, 2).is(2);
        Volume last = allInodes();
        last.damage(4, 15, 0, 0).is(true);
        last.state(4).is(15);
        last.mends(1, 0, 0, 0, 0);
        last.make(2, 0, false).is(15);
    }

    private static void find() {
        holds("Promise 14", "The inode that an entry names", () -> {
            Volume v = small();
            v.find(0, 1).is(1);
            v.find(0, 2).is(2);
            v.find(1, 3).is(3);
            smallDamaged().find(1, 3).is(3);
        });
        holds("Promise 14", "REFUSED if there is none", () -> {
            Volume v = small();
            for (int none : NO_INODE) {
                v.find(none, 1).is(REFUSED);
                v.find(none, 3).is(REFUSED);
            }
            for (int none : NO_NAME) {
                v.find(0, none).is(REFUSED);
            }
            v.find(0, 3).is(REFUSED);
            v.find(1, 1).is(REFUSED);
            v.find(2, 2).is(REFUSED);
            v.find(4, 1).is(REFUSED);
        });
    }

    private static void entry() {
        holds("Promise 15", "Of entry k (0 first) of a directory its name (what 0) or inode (1)", () -> {
            Volume v = fullRoot();
            int[] names = {5, 0, 7, 2, 9, 4, 6, 1, 8, 3};
            for (int k = 0; k < 10; k++) {
                v.entry(0, k, 0).is(names[k]);
                v.entry(0, k, 1).is(names[k] + 1);
            }
        });
        holds("Promise 15", "REFUSED if there is none", () -> {
            Volume v = fullRoot();
            for (int none : new int[] {-1, 10, 11, 64, LEAST, MOST}) {
                v.entry(0, none, 0).is(REFUSED);
                v.entry(0, none, 1).is(REFUSED);
            }
            for (int none : new int[] {-1, 2, 3, LEAST, MOST}) {
                v.entry(0, 0, none).is(REFUSED);
            }
            for (int none : NO_INODE) {
                v.entry(none, 0, 0).is(REFUSED);
            }
            v.entry(1, 0, 0).is(REFUSED);
            v.entry(15, 0, 1).is(REFUSED);
            Volume empty = new Volume();
            empty.entry(0, 0, 0).is(REFUSED);
            empty.entry(0, 0, 1).is(REFUSED);
        });
    }

    private static void of() {
        holds("Promise 16", "0: 0 FREE, 1 file, 2 directory; 1: LINKS; 2: how many entries or mapped positions; 3: extents",
                BoundaryTests::ofEach);
        holds("Promise 16", "4: the PARENT of a directory (kept, and not changed by damage; the root for the root)",
                BoundaryTests::parents);
        holds("Promise 16", "REFUSED for others, or if it is none", () -> {
            Volume v = small();
            for (int none : new int[] {-1, 5, 6, LEAST, MOST}) {
                for (int inode = 0; inode < 5; inode++) {
                    v.of(inode, none).is(REFUSED);
                }
            }
            for (int none : NO_INODE) {
                for (int what = -1; what < 6; what++) {
                    v.of(none, what).is(REFUSED);
                }
            }
        });
        holds("Promise 16", "or (but for 0) FREE", () -> {
            Volume v = small();
            for (int free : new int[] {4, 15}) {
                v.of(free, 0).is(0);
                for (int what = 1; what < 5; what++) {
                    v.of(free, what).is(REFUSED);
                }
            }
        });
        holds("Promise 16", "or not such a one", () -> {
            Volume v = smallWithBlocks();
            v.of(0, 3).is(REFUSED);
            v.of(1, 3).is(REFUSED);
            v.of(2, 4).is(REFUSED);
            v.of(3, 4).is(REFUSED);
        });
    }

    private static void read() {
        holds("Promise 17", "The int of a position, 0 for a hole", () -> {
            Volume v = smallWithBlocks();
            v.read(2, 0).is(10);
            v.read(3, 1).is(13);
            v.read(2, 2).is(0);
            v.read(2, 23).is(0);
            v.punch(2, 0, 1).is(1);
            v.read(2, 0).is(0);
            v.read(2, 1).is(11);
        });
        holds("Promise 17", "0 if there is no such file or position", () -> {
            Volume v = allBlocks();
            for (int none : NO_INODE) {
                v.read(none, 0).is(0);
            }
            for (int none : NO_POSITION) {
                v.read(3, none).is(0);
                v.read(4, none).is(0);
            }
            v.read(0, 0).is(0);
            v.read(1, 0).is(0);
            small().read(4, 0).is(0);
        });
    }

    private static void extent() {
        holds("Promise 18", "0: its first position, 1: its first block, 2: its length", () -> {
            Volume v = fiveExtents();
            v.write(2, 9, 0).is(5);
            v.extents(2, 0, 0, 1, 2, 1, 1, 4, 2, 1, 6, 3, 1, 8, 4, 2);
            Volume all = allBlocks();
            all.extents(3, 0, 0, 24);
            all.extents(5, 0, 48, 16);
        });
        holds("Promise 18", "REFUSED if there is none", () -> {
            Volume v = smallWithBlocks();
            for (int none : new int[] {-1, 1, 2, LEAST, MOST}) {
                for (int what = 0; what < 3; what++) {
                    v.extent(2, none, what).is(REFUSED);
                }
            }
            for (int none : new int[] {-1, 3, 4, LEAST, MOST}) {
                v.extent(2, 0, none).is(REFUSED);
            }
            for (int none : NO_INODE) {
                v.extent(none, 0, 0).is(REFUSED);
            }
            v.extent(0, 0, 0).is(REFUSED);
            v.extent(1, 0, 0).is(REFUSED);
            v.extent(4, 0, 0).is(REFUSED);
            small().extent(2, 0, 0).is(REFUSED);
        });
    }

    private static void state() {
        holds("Promise 19", "0: blocks that are not marked, 1: the longest row of these", () -> {
            new Volume().states(64, 64);
            Volume all = allBlocks();
            all.states(0, 0);
            all.punch(5, 15, 1).is(1);
            all.states(1, 1);
            all.punch(3, 0, 1).is(1);
            all.states(2, 1);
            all.punch(3, 1, 1).is(1);
            all.states(3, 2);
        });
        holds("Promise 19", "2: records, 3: safe ones", () -> {
            Volume v = fullLog();
            v.state(2).is(24);
            v.state(3).is(0);
            v.crash(9).is(15);
            v.state(2).is(9);
            v.state(3).is(9);
            v.checkpoint().is(9);
            v.state(2).is(0);
            v.state(3).is(0);
        });
        holds("Promise 19", "4: inodes that are not FREE, 5: 1 if it is damaged", () -> {
            new Volume().state(4).is(1);
            new Volume().state(5).is(0);
            Volume v = allInodes();
            v.state(4).is(16);
            v.state(5).is(0);
            v.damage(1, 0, 0, 0).is(true);
            v.state(5).is(1);
            v.mend().is(0);
            v.state(5).is(0);
            v.remove(1, 15).is(15);
            v.state(4).is(15);
        });
        holds("Promise 19", "REFUSED for others", () -> {
            for (int none : new int[] {-1, 6, 7, LEAST, MOST}) {
                new Volume().state(none).is(REFUSED);
                smallDamaged().state(none).is(REFUSED);
            }
        });
    }

    private static void ofEach() {
        Volume v = small();
        v.write(3, 0, 1).is(0);
        v.write(3, 5, 1).is(1);
        v.write(3, 6, 1).is(2);
        int[][] due = {{2, 0, 2}, {2, 1, 1}, {1, 1, 0, 0}, {1, 1, 3, 2}, {0}};
        for (int inode = 0; inode < due.length; inode++) {
            for (int what = 0; what < due[inode].length; what++) {
                v.of(inode, what).is(due[inode][what]);
            }
        }
        Volume all = allBlocks();
        all.of(3, 2).is(24);
        all.of(5, 2).is(16);
        all.of(2, 2).is(0);
        all.of(15, 2).is(0);
        fullRoot().of(0, 2).is(10);
    }

    private static void parents() {
        Volume v = twoBranches();
        int[] due = {0, 0, 1, 2, 0};
        for (int dir = 0; dir < 5; dir++) {
            v.of(dir, 4).is(due[dir]);
        }
        v.damage(3, 2, 0, 4).is(true);
        v.damage(3, 0, 0, 3).is(true);
        v.damage(4, 2, 0, 0).is(true);
        v.of(3, 4).is(2);
        v.of(4, 4).is(0);
        v.of(1, 4).is(0);
        v.of(0, 4).is(0);
        // The root's 5 names 3 now; 1 is not met, and its entry names 2, which is FREE.
        v.mends(1, 1, 0, 0, 0);
        v.of(3, 4).is(0);
        v.of(1, 4).is(0);
    }

    private static void order() {
        holds("Promise 20", "make: REFUSED before EXISTS, and these before FULL", () -> {
            Volume v = full();
            v.make(2, 20, true).is(REFUSED);
            v.make(1, 64, true).is(REFUSED);
            v.make(1, 20, true).is(EXISTS);
            v.make(1, 40, true).is(FULL);
            fullDirectory().make(1, 20, false).is(EXISTS);
            fullLog().make(0, 1, false).is(EXISTS);
            allInodes().make(0, 1, false).is(EXISTS);
            fullLog().make(3, 1, false).is(REFUSED);
            allInodes().make(3, 1, false).is(REFUSED);
            smallDamaged().make(0, 1, false).is(REFUSED);
        });
        holds("Promise 20", "link: REFUSED before EXISTS, and these before FULL", () -> {
            Volume v = full();
            v.link(1, 20, 1).is(REFUSED);
            v.link(1, 64, 2).is(REFUSED);
            v.link(1, 20, 2).is(EXISTS);
            v.link(1, 40, 2).is(FULL);
            v.link(1, 40, 1).is(REFUSED);
            fullDirectory().link(1, 29, 3).is(EXISTS);
            fullLog().link(0, 2, 2).is(EXISTS);
            smallDamaged().link(0, 1, 2).is(REFUSED);
        });
        holds("Promise 20", "remove: REFUSED before NOT_EMPTY, and these before FULL", () -> {
            Volume v = full();
            v.remove(0, 40).is(REFUSED);
            v.remove(0, 1).is(NOT_EMPTY);
            v.remove(0, 2).is(FULL);
            smallDamaged().remove(0, 1).is(REFUSED);
        });
        holds("Promise 20", "move: REFUSED before EXISTS before LOOP, and these before FULL", () -> {
            Volume v = full();
            v.move(0, 40, 1, 20).is(REFUSED);
            v.move(0, 2, 1, 64).is(REFUSED);
            v.move(0, 1, 1, 20).is(EXISTS);
            v.move(0, 2, 1, 20).is(EXISTS);
            v.move(0, 1, 1, 40).is(LOOP);
            v.move(0, 2, 1, 40).is(FULL);
            v.move(0, 2, 0, 40).is(FULL);
            fullDirectory().move(0, 1, 1, 20).is(EXISTS);
            fullDirectory().move(0, 1, 1, 40).is(LOOP);
            smallDamaged().move(0, 1, 1, 3).is(REFUSED);
            smallDamaged().move(0, 1, 1, 9).is(REFUSED);
        });
        holds("Promise 20", "write and punch: REFUSED before FULL", () -> {
            Volume v = full();
            v.write(1, 0, 0).is(REFUSED);
            v.write(2, 24, 0).is(REFUSED);
            v.write(2, 0, 0).is(FULL);
            v.punch(1, 0, 1).is(REFUSED);
            v.punch(2, 23, 2).is(REFUSED);
            v.punch(2, 0, 0).is(REFUSED);
            v.punch(2, 23, 1).is(FULL);
            allBlocks().write(6, 24, 0).is(REFUSED);
            allBlocks().write(1, 0, 0).is(REFUSED);
            fiveExtents().write(2, 24, 0).is(REFUSED);
        });
        holds("Promise 20", "the answers below 0", () -> {
            int[] constants = {JournalVolume.REFUSED, JournalVolume.EXISTS, JournalVolume.FULL,
                JournalVolume.NOT_EMPTY, JournalVolume.LOOP};
            for (int n = 0; n < constants.length; n++) {
                new Answer("constant " + n, constants[n]).is(-1 - n);
            }
        });
    }

    /** Directory 1 and the log are full. */
    private static Volume full() {
        Volume v = fullDirectory();
        for (int n = 0; n < 24; n++) {
            v.write(2, 0, n).is(0);
        }
        return v;
    }

    public static void main(String[] args) {
        terms();
        mending();
        newObject();
        make();
        link();
        remove();
        move();
        write();
        punch();
        sync();
        checkpoint();
        crash();
        damage();
        mend();
        mended();
        find();
        entry();
        of();
        read();
        extent();
        state();
        order();
        System.out.println(wrong == 0 ? "all " + tests + " sentences hold" : wrong + " answers are not as due");
        if (wrong != 0) {
            System.exit(1);
        }
    }
}
