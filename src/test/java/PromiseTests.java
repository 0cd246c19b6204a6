/** Calls whose answers were worked out by hand from the document, promise by promise. */
public final class PromiseTests {
    private static final int LEAST = Integer.MIN_VALUE, MOST = Integer.MAX_VALUE;
    private static int wrong = 0;
    private static int promise = 0;

    private static void is(String call, int got, int due) {
        if (got != due) {
            wrong++;
            System.out.println("promise " + promise + ": " + call + " answered " + got + ", due is " + due);
        }
    }

    private static void is(String call, boolean got, boolean due) {
        is(call, got ? 1 : 0, due ? 1 : 0);
    }

    private static void states(JournalVolume v, int... due) {
        for (int what = 0; what < due.length; what++) {
            is("state(" + what + ")", v.state(what), due[what]);
        }
    }

    private static void mendings(JournalVolume v, int... due) {
        int all = 0;
        for (int many : due) {
            all += many;
        }
        is("mend()", v.mend(), all);
        for (int k = 0; k < due.length; k++) {
            is("mended(" + k + ")", v.mended(k), due[k]);
        }
        is("state(5) after mend", v.state(5), 0);
    }

    private static void names(JournalVolume v, int dir, int... due) {
        for (int k = 0; k < due.length; k++) {
            is("entry(" + dir + ", " + k + ", 0)", v.entry(dir, k, 0), due[k]);
        }
        is("entry(" + dir + ", " + due.length + ", 0)", v.entry(dir, due.length, 0), -1);
        is("of(" + dir + ", 2)", v.of(dir, 2), due.length);
    }

    /** Due: position, block and length of each extent. */
    private static void extents(JournalVolume v, int file, int... due) {
        for (int n = 0; n < due.length; n++) {
            is("extent(" + file + ", " + n / 3 + ", " + n % 3 + ")", v.extent(file, n / 3, n % 3), due[n]);
        }
        is("extent(" + file + ", " + due.length / 3 + ", 0)", v.extent(file, due.length / 3, 0), -1);
        is("of(" + file + ", 3)", v.of(file, 3), due.length / 3);
    }

    /** A directory 1 and a file 2 in the root, named 1 and 2, and a file 3 named 3 in directory 1. */
    private static JournalVolume small() {
        JournalVolume v = new JournalVolume();
        is("make(0, 1, true)", v.make(0, 1, true), 1);
        is("make(0, 2, false)", v.make(0, 2, false), 2);
        is("make(1, 3, false)", v.make(1, 3, false), 3);
        return v;
    }

    private static JournalVolume smallInPlace() {
        JournalVolume v = small();
        is("checkpoint()", v.checkpoint(), 3);
        return v;
    }

    private static JournalVolume smallDamaged() {
        JournalVolume v = smallInPlace();
        is("damage(1, 63, 1, 0)", v.damage(1, 63, 1, 0), true);
        return v;
    }

    /** The log full with writes into file 2. */
    private static JournalVolume smallWithFullLog() {
        JournalVolume v = small();
        for (int n = 0; n < 21; n++) {
            is("write(2, 0, " + n + ")", v.write(2, 0, n), 0);
        }
        return v;
    }

    /** Directory 1 in the root has entries named 20 .. 29 for file 3 (in part) and files 4 and 5; the log is empty. */
    private static JournalVolume fullDirectory() {
        JournalVolume v = new JournalVolume();
        v.make(0, 1, true);
        v.make(0, 2, false);
        v.make(1, 20, false);
        v.make(1, 21, false);
        v.make(1, 22, false);
        for (int name = 23; name < 30; name++) {
            is("link(1, " + name + ", 3)", v.link(1, name, 3), name - 21);
        }
        is("checkpoint()", v.checkpoint(), 12);
        return v;
    }

    /** All inodes taken: directories 1 and 2, files 3 .. 15. */
    private static JournalVolume allInodes() {
        JournalVolume v = new JournalVolume();
        v.make(0, 1, true);
        v.make(0, 2, true);
        for (int inode = 3; inode < 16; inode++) {
            is("make", v.make(inode < 9 ? 0 : 1, inode, false), inode);
        }
        is("checkpoint()", v.checkpoint(), 15);
        return v;
    }

    /** All blocks marked: files 3, 4 with 24 positions, file 5 with 16. */
    private static JournalVolume allBlocks() {
        JournalVolume v = allInodes();
        for (int n = 0; n < 64; n++) {
            is("write", v.write(3 + n / 24, n % 24, 1000 + n), n);
            if (n % 24 == 23) {
                is("checkpoint()", v.checkpoint(), 24);
            }
        }
        is("checkpoint()", v.checkpoint(), 16);
        return v;
    }

    /** File 2 has five extents at positions 0, 2, 4, 6, 8 (blocks 0 .. 4), file 3 none. */
    private static JournalVolume fiveExtents() {
        JournalVolume v = small();
        for (int n = 0; n < 5; n++) {
            is("write(2, " + 2 * n + ", 0)", v.write(2, 2 * n, 0), n);
        }
        return v;
    }

    private static void newObject() {
        JournalVolume v = new JournalVolume();
        states(v, 64, 64, 0, 0, 1, 0);
        is("of(0, 0)", v.of(0, 0), 2);
        is("of(0, 1)", v.of(0, 1), 0);
        is("of(0, 4)", v.of(0, 4), 0);
        names(v, 0);
        for (int inode = 1; inode < 16; inode++) {
            is("of(" + inode + ", 0)", v.of(inode, 0), 0);
        }
        for (int k = 0; k < 5; k++) {
            is("mended(" + k + ")", v.mended(k), 0);
        }
        v.make(0, 0, false);
        v.write(1, 0, 7);
        v.checkpoint();
        for (int block = 1; block < 64; block++) {
            v.damage(2, 1, 0, block);
            is("read of block " + block, v.read(1, 0), 0);
        }
        is("mend()", new JournalVolume().mend(), 0);
        is("crash(0)", new JournalVolume().crash(0), 0);
    }

    private static void make() {
        JournalVolume v = small();
        is("of(1, 0)", v.of(1, 0), 2);
        is("of(2, 0)", v.of(2, 0), 1);
        is("of(1, 1)", v.of(1, 1), 1);
        is("of(2, 1)", v.of(2, 1), 1);
        is("of(1, 4)", v.of(1, 4), 0);
        is("find(1, 3)", v.find(1, 3), 3);
        is("make(1, 0, true)", v.make(1, 0, true), 4);
        is("make(4, 63, true)", v.make(4, 63, true), 5);
        is("of(5, 4)", v.of(5, 4), 4);
        is("remove(0, 2)", v.remove(0, 2), 2);
        is("make(1, 2, true), the least that is FREE", v.make(1, 2, true), 2);
        is("of(2, 0)", v.of(2, 0), 2);
        names(v, 2);
        is("make into a file", v.make(3, 1, false), -1);
        is("make into a FREE inode", v.make(6, 1, false), -1);
        for (int none : new int[] {-1, 16, LEAST, MOST}) {
            is("make(" + none + ", 1, false)", v.make(none, 1, false), -1);
        }
        for (int none : new int[] {-1, 64, LEAST, MOST}) {
            is("make(0, " + none + ", true)", v.make(0, none, true), -1);
        }
        is("make of a name that is there", v.make(0, 1, false), -2);
        is("records", v.state(2), 7);
        is("make in a damaged volume", smallDamaged().make(0, 9, false), -1);
        is("make of a name that is there, damaged", smallDamaged().make(0, 1, false), -1);

        is("make, log full", smallWithFullLog().make(0, 9, false), -3);
        is("make, log full, name there", smallWithFullLog().make(0, 1, false), -2);
        is("make, log full, no name", smallWithFullLog().make(0, 64, false), -1);
        is("make, directory full", fullDirectory().make(1, 30, false), -3);
        is("make, directory full, name there", fullDirectory().make(1, 29, false), -2);
        JournalVolume all = allInodes();
        is("make, no inode FREE", all.make(2, 40, false), -3);
        is("records", all.state(2), 0);
        is("remove(0, 5)", all.remove(0, 5), 5);
        is("make(2, 40, false)", all.make(2, 40, false), 5);
    }

    private static void link() {
        JournalVolume v = small();
        is("link(0, 0, 3)", v.link(0, 0, 3), 2);
        is("link(1, 0, 3)", v.link(1, 0, 3), 3);
        is("find(0, 0)", v.find(0, 0), 3);
        is("of(3, 1)", v.of(3, 1), 3);
        is("of(2, 1)", v.of(2, 1), 1);
        is("records", v.state(2), 5);
        is("link of a directory", v.link(0, 9, 1), -1);
        is("link of the root", v.link(0, 9, 0), -1);
        is("link of a FREE inode", v.link(0, 9, 4), -1);
        is("link into a file", v.link(2, 9, 3), -1);
        for (int none : new int[] {-1, 16, LEAST, MOST}) {
            is("link(0, 9, " + none + ")", v.link(0, 9, none), -1);
            is("link(" + none + ", 9, 3)", v.link(none, 9, 3), -1);
        }
        is("link(0, -1, 3)", v.link(0, -1, 3), -1);
        is("link(0, 64, 3)", v.link(0, 64, 3), -1);
        is("link of a name that is there", v.link(0, 1, 3), -2);
        is("records", v.state(2), 5);
        is("link in a damaged volume", smallDamaged().link(0, 9, 3), -1);

        is("link, log full", smallWithFullLog().link(0, 9, 3), -3);
        is("link, log full, name there", smallWithFullLog().link(0, 1, 3), -2);
        is("link, directory full", fullDirectory().link(1, 30, 4), -3);
        is("link, all inodes taken (link needs none)", allInodes().link(2, 40, 3), 2);
        nineLinks();
    }

    private static void nineLinks() {
        JournalVolume v = fullDirectory();
        is("of(3, 1)", v.of(3, 1), 8);
        is("link(0, 30, 3)", v.link(0, 30, 3), 9);
        is("a tenth link", v.link(0, 31, 3), -1);
        is("a tenth link, name there", v.link(0, 30, 3), -1);
        v.checkpoint();
        for (int k = 0; k < 10; k++) {
            v.damage(3, 1, k, 3);
        }
        v.mend();
        is("of(3, 1) after mending", v.of(3, 1), 11);
        is("link of what has 11", v.link(0, 40, 3), -1);
    }

    private static void remove() {
        JournalVolume v = small();
        v.link(0, 9, 3);
        is("write(3, 4, 8)", v.write(3, 4, 8), 0);
        is("write(3, 5, 9)", v.write(3, 5, 9), 1);
        is("remove of a directory with entries", v.remove(0, 1), -4);
        is("remove(1, 3)", v.remove(1, 3), 3);
        is("of(3, 1)", v.of(3, 1), 1);
        is("read(3, 4)", v.read(3, 4), 8);
        is("find(1, 3)", v.find(1, 3), -1);
        is("blocks not marked", v.state(0), 62);
        is("remove(0, 9)", v.remove(0, 9), 3);
        is("of(3, 0)", v.of(3, 0), 0);
        is("of(3, 1)", v.of(3, 1), -1);
        is("read(3, 4)", v.read(3, 4), 0);
        is("blocks not marked", v.state(0), 64);
        is("remove(0, 1)", v.remove(0, 1), 1);
        is("of(1, 0)", v.of(1, 0), 0);
        is("remove of no entry", v.remove(0, 1), -1);
        is("remove in a FREE inode", v.remove(1, 3), -1);
        is("remove in a file", v.remove(2, 3), -1);
        for (int none : new int[] {-1, 16, LEAST, MOST}) {
            is("remove(" + none + ", 2)", v.remove(none, 2), -1);
        }
        for (int none : new int[] {-1, 64, LEAST, MOST}) {
            is("remove(0, " + none + ")", v.remove(0, none), -1);
        }
        is("records", v.state(2), 9);
        is("a new file in its place", v.make(0, 50, false), 1);
        is("a new file in its place", v.make(0, 51, false), 3);
        is("has no positions", v.of(3, 2), 0);
        is("has one link", v.of(3, 1), 1);
        removeBesideOthers();
        is("remove in a damaged volume", smallDamaged().remove(0, 2), -1);
        is("remove of what is not empty in a damaged volume", smallDamaged().remove(0, 1), -1);
        is("remove, log full", smallWithFullLog().remove(0, 2), -3);
        is("remove, log full, not empty", smallWithFullLog().remove(0, 1), -4);
        is("remove, log full, no entry", smallWithFullLog().remove(0, 3), -1);
    }

    /** The first in the order of the hash is 17, the last is 36: what is next to an inode's own stays as it is. */
    private static void removeBesideOthers() {
        JournalVolume v = small();
        v.make(0, 30, true);
        v.make(0, 31, true);
        v.make(5, 17, false);
        v.make(5, 36, false);
        v.write(3, 0, 5);
        v.write(3, 23, 6);
        names(v, 4);
        is("remove of a directory", v.remove(0, 30), 4);
        names(v, 5, 17, 36);
        is("remove of a file", v.remove(0, 2), 2);
        is("read(3, 0)", v.read(3, 0), 5);
        is("read(3, 23)", v.read(3, 23), 6);
        is("make(0, 30, true)", v.make(0, 30, true), 2);
        is("make(2, 17, false)", v.make(2, 17, false), 4);
        is("remove(2, 17)", v.remove(2, 17), 4);
        is("remove(0, 30)", v.remove(0, 30), 2);
        is("entry(5, 0, 1)", v.entry(5, 0, 1), 6);
    }

    private static void move() {
        JournalVolume v = small();
        is("move(1, 3, 0, 3)", v.move(1, 3, 0, 3), 3);
        is("find(1, 3)", v.find(1, 3), -1);
        is("find(0, 3)", v.find(0, 3), 3);
        is("of(3, 1)", v.of(3, 1), 1);
        is("move(0, 3, 0, 63)", v.move(0, 3, 0, 63), 3);
        is("find(0, 63)", v.find(0, 63), 3);
        names(v, 0, 2, 63, 1);
        is("make(0, 4, true)", v.make(0, 4, true), 4);
        is("make(4, 5, true)", v.make(4, 5, true), 5);
        is("move(0, 1, 5, 1)", v.move(0, 1, 5, 1), 1);
        is("of(1, 4)", v.of(1, 4), 5);
        is("of(5, 4)", v.of(5, 4), 4);
        is("into itself", v.move(0, 4, 4, 9), -5);
        is("below itself", v.move(0, 4, 1, 9), -5);
        is("below itself, name there", v.move(0, 4, 5, 1), -2);
        is("a directory within its own", v.move(4, 5, 4, 6), 5);
        is("a directory up to the root", v.move(5, 1, 0, 0), 1);
        is("of(1, 4)", v.of(1, 4), 0);
        is("a directory that is not above", v.move(0, 4, 1, 0), 4);
        is("of(4, 4)", v.of(4, 4), 1);
        is("records", v.state(2), 11);
        moveWrongly(v);
        moveFull();
    }

    /** The root has 2, 63 and 0 (directory 1), 1 has 0 (directory 4), 4 has 6 (directory 5). */
    private static void moveWrongly(JournalVolume v) {
        is("no such entry", v.move(0, 9, 1, 9), -1);
        is("onto itself", v.move(0, 2, 0, 2), -2);
        is("onto another one", v.move(0, 2, 0, 63), -2);
        is("from a file", v.move(2, 1, 0, 9), -1);
        is("into a file", v.move(0, 63, 2, 9), -1);
        is("into a FREE inode", v.move(0, 63, 9, 9), -1);
        for (int none : new int[] {-1, 16, LEAST, MOST}) {
            is("move(" + none + ", 2, 0, 9)", v.move(none, 2, 0, 9), -1);
            is("move(0, 2, " + none + ", 9)", v.move(0, 2, none, 9), -1);
        }
        for (int none : new int[] {-1, 64, LEAST, MOST}) {
            is("move(0, " + none + ", 0, 9)", v.move(0, none, 0, 9), -1);
            is("move(0, 2, 1, " + none + ")", v.move(0, 2, 1, none), -1);
        }
        is("records", v.state(2), 11);
        is("move in a damaged volume", smallDamaged().move(0, 2, 1, 9), -1);
        is("move onto another one in a damaged volume", smallDamaged().move(0, 2, 1, 3), -1);
    }

    private static void moveFull() {
        JournalVolume v = fullDirectory();
        is("into a full one", v.move(0, 2, 1, 30), -3);
        is("into a full one, name there", v.move(0, 2, 1, 29), -2);
        is("within a full one", v.move(1, 29, 1, 30), 3);
        is("out of a full one", v.move(1, 30, 0, 30), 3);
        is("into it then", v.move(0, 2, 1, 30), 2);
        JournalVolume full = fullDirectory();
        is("into itself, full", full.move(0, 1, 1, 40), -5);
        is("move, log full", smallWithFullLog().move(0, 2, 1, 9), -3);
        is("move, log full, loop", smallWithFullLog().move(0, 1, 1, 9), -5);
        is("move, log full, name there", smallWithFullLog().move(0, 2, 1, 3), -2);
    }

    private static void write() {
        JournalVolume v = small();
        is("write(2, 0, -5)", v.write(2, 0, -5), 0);
        is("write(2, 0, 6)", v.write(2, 0, 6), 0);
        is("read(2, 0)", v.read(2, 0), 6);
        is("write(2, 23, 9)", v.write(2, 23, MOST), 1);
        is("read(2, 23)", v.read(2, 23), MOST);
        is("no block behind is free", v.write(2, 1, 1), 2);
        is("the block behind", v.write(2, 2, LEAST), 3);
        is("read(2, 2)", v.read(2, 2), LEAST);
        is("blocks not marked", v.state(0), 60);
        is("write into a directory", v.write(1, 0, 1), -1);
        is("write into a FREE inode", v.write(4, 0, 1), -1);
        for (int none : new int[] {-1, 16, LEAST, MOST}) {
            is("write(" + none + ", 0, 1)", v.write(none, 0, 1), -1);
        }
        for (int none : new int[] {-1, 24, LEAST, MOST}) {
            is("write(2, " + none + ", 1)", v.write(2, none, 1), -1);
        }
        is("records", v.state(2), 8);
        is("write in a damaged volume", smallDamaged().write(2, 0, 1), -1);
        is("write, log full", smallWithFullLog().write(2, 0, 1), -3);
        is("write into a hole, log full", smallWithFullLog().write(2, 1, 1), -3);
        is("write to no position, log full", smallWithFullLog().write(2, 24, 1), -1);
        choose();
        chooseAtTheEnds();
        chooseBesideOthers();
        sixthExtentOfWrite();
        JournalVolume all = allBlocks();
        is("all blocks marked", all.write(6, 0, 1), -3);
        is("all blocks marked, a hole", all.write(5, 16, 1), -3);
        is("all blocks marked, mapped", all.write(5, 15, 1), 63);
        is("records", all.state(2), 1);
        is("longest row of none", all.state(1), 0);
    }

    private static void choose() {
        JournalVolume v = small();
        for (int n = 0; n < 8; n++) {
            is("write(2, " + n + ", 0)", v.write(2, n, 0), n);
        }
        v.write(3, 0, 0);
        is("punch(2, 2, 3)", v.punch(2, 2, 3), 3);
        is("the first block of the longest row, not of the first", v.write(3, 10, 0), 9);
        is("the block before, with none mapped before", v.write(2, 4, 0), 4);
        is("the block behind goes before the block before", v.write(2, 2, 0), 2);
        is("both neighbours: one behind", v.write(2, 3, 0), 3);
        extents(v, 2, 0, 0, 8);
        is("punch(2, 2, 2)", v.punch(2, 2, 2), 2);
        is("the block before, as the one behind is marked", v.write(3, 9, 0), 10);
        v.checkpoint();
        lowestOfSeveral();
        beforeWhenBehindIsMarked();
    }

    private static void lowestOfSeveral() {
        JournalVolume v = allBlocks();
        is("punch(3, 4, 2)", v.punch(3, 4, 2), 2);
        is("punch(3, 10, 3)", v.punch(3, 10, 3), 3);
        is("punch(4, 4, 3)", v.punch(4, 4, 3), 3);
        is("blocks not marked", v.state(0), 8);
        is("longest row", v.state(1), 3);
        is("the lowest of the longest", v.write(6, 0, 0), 10);
        is("longest row", v.state(1), 3);
        is("then the other", v.write(6, 5, 0), 28);
        is("longest row", v.state(1), 2);
        is("then the lowest of three", v.write(6, 10, 0), 4);
    }

    private static void beforeWhenBehindIsMarked() {
        JournalVolume v = small();
        is("write(2, 0, 0)", v.write(2, 0, 0), 0);
        is("write(3, 0, 0)", v.write(3, 0, 0), 1);
        is("write(3, 1, 0)", v.write(3, 1, 0), 2);
        is("write(2, 2, 0)", v.write(2, 2, 0), 3);
        is("punch(3, 1, 1)", v.punch(3, 1, 1), 1);
        is("the block before", v.write(2, 1, 0), 2);
        extents(v, 2, 0, 0, 1, 1, 2, 2);
    }

    private static void chooseAtTheEnds() {
        JournalVolume v = allBlocks();
        is("punch(3, 5, 1)", v.punch(3, 5, 1), 1);
        is("no block 64", v.write(5, 16, 7), 5);
        is("punch(3, 0, 1)", v.punch(3, 0, 1), 1);
        is("punch(4, 23, 1)", v.punch(4, 23, 1), 1);
        is("block 0 before 1", v.write(3, 0, 7), 0);
        is("the last position", v.write(4, 23, 7), 47);
        is("punch(3, 0, 2)", v.punch(3, 0, 2), 2);
        is("write(6, 23, 0)", v.write(6, 23, 0), 0);
        is("no block before 0", v.write(6, 22, 0), 1);
        extents(v, 6, 22, 1, 1, 23, 0, 1);
    }

    /** The ends of one file are no neighbours of the ends of another. */
    private static void chooseBesideOthers() {
        JournalVolume v = small();
        is("make(0, 9, false)", v.make(0, 9, false), 4);
        is("write(4, 10, 0)", v.write(4, 10, 0), 0);
        is("write(2, 23, 0)", v.write(2, 23, 0), 1);
        is("write(3, 0, 0)", v.write(3, 0, 0), 2);
        extents(v, 2, 23, 1, 1);
        extents(v, 3, 0, 2, 1);
        is("write(4, 0, 0)", v.write(4, 0, 0), 3);
        is("punch(4, 0, 24)", v.punch(4, 0, 24), 2);
        is("no neighbour: not block 0", v.write(4, 5, 0), 3);
        is("write(4, 20, 0)", v.write(4, 20, 0), 4);
        is("punch(4, 5, 1)", v.punch(4, 5, 1), 1);
        is("punch(2, 23, 1)", v.punch(2, 23, 1), 1);
        is("not before the block of file 3", v.write(2, 23, 0), 5);
        JournalVolume w = small();
        is("write(2, 23, 0)", w.write(2, 23, 0), 0);
        is("write(3, 10, 0)", w.write(3, 10, 0), 1);
        is("write(3, 12, 0)", w.write(3, 12, 0), 2);
        is("punch(3, 10, 1)", w.punch(3, 10, 1), 1);
        is("not behind the block of file 2", w.write(3, 0, 0), 3);
    }

    private static void sixthExtentOfWrite() {
        JournalVolume v = fiveExtents();
        extents(v, 2, 0, 0, 1, 2, 1, 1, 4, 2, 1, 6, 3, 1, 8, 4, 1);
        is("a sixth extent", v.write(2, 10, 5), -3);
        is("a sixth between", v.write(2, 1, 5), -3);
        is("nothing is left of it", v.of(2, 2), 5);
        is("nothing is left of it", v.state(0), 59);
        is("nothing is left of it", v.state(2), 8);
        is("nothing is left of it", v.read(2, 10), 0);
        is("one more of the fifth", v.write(2, 9, 5), 5);
        is("write over", v.write(2, 0, 5), 0);
        is("punch(2, 9, 1)", v.punch(2, 9, 1), 1);
        v.checkpoint();
        is("damage", v.damage(2, 2, 0, 5), true);
        is("a block of a hole holds what it held", v.read(2, 0), 5);
        JournalVolume w = fiveExtents();
        w.write(2, 10, 77);
        w.checkpoint();
        is("damage", w.damage(2, 2, 0, 5), true);
        is("a refused write leaves no int", w.read(2, 0), 0);
    }

    private static void punch() {
        JournalVolume v = small();
        for (int n = 2; n < 10; n++) {
            is("write(2, " + n + ", 1)", v.write(2, n, n), n - 2);
        }
        is("punch(2, 4, 2)", v.punch(2, 4, 2), 2);
        is("read(2, 4)", v.read(2, 4), 0);
        is("read(2, 3)", v.read(2, 3), 3);
        is("read(2, 6)", v.read(2, 6), 6);
        extents(v, 2, 2, 0, 2, 6, 4, 4);
        is("blocks not marked", v.state(0), 58);
        is("punch(2, 3, 4)", v.punch(2, 3, 4), 2);
        is("punch of holes alone", v.punch(2, 20, 1), 0);
        is("it is a record", v.state(2), 14);
        is("punch(2, 0, 24)", v.punch(2, 0, 24), 4);
        is("of(2, 2)", v.of(2, 2), 0);
        is("blocks not marked", v.state(0), 64);
        is("punch(2, 23, 1)", v.punch(2, 23, 1), 0);
        is("records", v.state(2), 16);
        is("many 0", v.punch(2, 0, 0), -1);
        is("many -1", v.punch(2, 5, -1), -1);
        is("many least", v.punch(2, 5, LEAST), -1);
        is("one beyond", v.punch(2, 0, 25), -1);
        is("one beyond", v.punch(2, 23, 2), -1);
        is("most", v.punch(2, 23, MOST), -1);
        is("of a directory", v.punch(1, 0, 1), -1);
        is("of a FREE inode", v.punch(4, 0, 1), -1);
        for (int none : new int[] {-1, 16, LEAST, MOST}) {
            is("punch(" + none + ", 0, 1)", v.punch(none, 0, 1), -1);
        }
        for (int none : new int[] {-1, 24, LEAST, MOST}) {
            is("punch(2, " + none + ", 1)", v.punch(2, none, 1), -1);
        }
        is("records", v.state(2), 16);
        is("punch in a damaged volume", smallDamaged().punch(2, 0, 1), -1);
        is("punch, log full", smallWithFullLog().punch(2, 0, 1), -3);
        is("punch, log full, many 0", smallWithFullLog().punch(2, 0, 0), -1);
        sixthExtentOfPunch();
    }

    private static void sixthExtentOfPunch() {
        JournalVolume v = small();
        for (int n = 0; n < 11; n++) {
            v.write(2, n, n);
        }
        for (int n = 1; n < 9; n += 2) {
            is("punch(2, " + n + ", 1)", v.punch(2, n, 1), 1);
        }
        is("a sixth extent", v.punch(2, 9, 1), -3);
        is("it stays", v.read(2, 9), 9);
        is("it stays", v.of(2, 3), 5);
        is("records", v.state(2), 18);
        is("blocks not marked", v.state(0), 57);
        is("one end of the fifth", v.punch(2, 10, 1), 1);
        is("a whole extent", v.punch(2, 2, 1), 1);
        is("of(2, 3)", v.of(2, 3), 4);
    }

    private static void sync() {
        JournalVolume v = small();
        is("sync()", v.sync(), 3);
        states(v, 64, 64, 3, 3);
        is("sync()", v.sync(), 0);
        v.write(2, 0, 1);
        v.punch(2, 0, 1);
        states(v, 64, 64, 5, 3);
        is("sync()", v.sync(), 2);
        is("crash(0)", v.crash(0), 0);
        v.checkpoint();
        is("sync of an empty log", v.sync(), 0);
        is("sync when damaged", smallDamaged().sync(), 0);
        is("sync of a new one", new JournalVolume().sync(), 0);
    }

    private static void checkpoint() {
        JournalVolume v = small();
        v.sync();
        v.write(2, 0, 5);
        is("checkpoint()", v.checkpoint(), 4);
        states(v, 63, 63, 0, 0, 4, 0);
        is("checkpoint()", v.checkpoint(), 0);
        is("crash(0)", v.crash(0), 0);
        is("read(2, 0)", v.read(2, 0), 5);
        JournalVolume full = smallWithFullLog();
        is("checkpoint() of a full log", full.checkpoint(), 24);
        is("write(2, 0, 1)", full.write(2, 0, 1), 0);
        is("crash(0)", full.crash(0), 1);
        is("read(2, 0)", full.read(2, 0), 20);
        JournalVolume damaged = smallDamaged();
        is("checkpoint when damaged", damaged.checkpoint(), 0);
        is("still damaged", damaged.state(5), 1);
    }

    private static void crash() {
        for (int j = 0; j <= 24; j++) {
            crashWith(j);
        }
        JournalVolume v = small();
        for (int none : new int[] {-1, 25, LEAST, MOST}) {
            is("crash(" + none + ")", v.crash(none), -1);
        }
        is("nothing is lost", v.state(2), 3);
        is("nothing is safe", v.state(3), 0);
        is("crash(24)", v.crash(24), 0);
        is("all left is safe", v.state(3), 3);
        crashOfEach();
        crashOfMove();
        crashOfDamaged();
    }

    /** Three safe records, then five writes over one another. */
    private static void crashWith(int j) {
        JournalVolume v = small();
        v.sync();
        for (int n = 1; n <= 5; n++) {
            v.write(2, n, n);
        }
        int left = j < 5 ? j : 5;
        is("crash(" + j + ")", v.crash(j), 5 - left);
        states(v, 64 - left, 64 - left, 3 + left, 3 + left, 4, 0);
        for (int n = 1; n <= 5; n++) {
            is("read(2, " + n + ")", v.read(2, n), n <= left ? n : 0);
        }
        is("a second crash", v.crash(0), 0);
        is("write", v.write(2, 9, 9), left);
        is("crash(0)", v.crash(0), 1);
        is("sync()", v.sync(), 0);
    }

    private static void crashOfEach() {
        JournalVolume v = smallInPlace();
        v.write(2, 0, 11);
        v.write(2, 1, 12);
        v.checkpoint();
        v.make(0, 9, true);
        v.link(4, 9, 2);
        v.move(0, 1, 4, 1);
        v.remove(1, 3);
        v.punch(2, 0, 2);
        v.write(3, 0, 99);
        v.remove(0, 2);
        v.remove(4, 9);
        states(v, 64, 64, 7, 0, 3, 0);
        is("crash(0)", v.crash(0), 7);
        states(v, 62, 62, 0, 0, 4, 0);
        names(v, 0, 2, 1);
        names(v, 1, 3);
        is("of(1, 4)", v.of(1, 4), 0);
        is("of(2, 1)", v.of(2, 1), 1);
        is("of(3, 1)", v.of(3, 1), 1);
        is("read(2, 1)", v.read(2, 1), 12);
        extents(v, 2, 0, 0, 2);
        is("make(0, 9, true)", v.make(0, 9, true), 4);
        names(v, 4);
    }

    private static void crashOfMove() {
        JournalVolume v = smallInPlace();
        v.make(0, 9, true);
        v.make(1, 9, true);
        v.make(4, 9, true);
        v.sync();
        is("move(1, 9, 4, 8)", v.move(1, 9, 4, 8), 5);
        is("move(4, 9, 5, 8)", v.move(4, 9, 5, 8), 6);
        is("crash(1)", v.crash(1), 1);
        is("of(5, 4)", v.of(5, 4), 4);
        is("of(6, 4)", v.of(6, 4), 4);
        v.checkpoint();
        is("move(4, 8, 1, 9)", v.move(4, 8, 1, 9), 5);
        is("crash(0)", v.crash(0), 1);
        is("of(5, 4)", v.of(5, 4), 4);
        is("LOOP", v.move(0, 9, 5, 1), -5);
    }

    private static void crashOfDamaged() {
        JournalVolume v = smallDamaged();
        is("crash when damaged", v.crash(0), 0);
        is("crash when damaged", v.crash(25), -1);
        states(v, 63, 63, 0, 0, 4, 1);
        mendings(v, 0, 0, 0, 1, 0);
        v.make(0, 9, false);
        is("crash(0)", v.crash(0), 1);
        states(v, 64, 64, 0, 0, 4, 0);
        is("mended(3)", v.mended(3), 1);
    }

    private static void damage() {
        JournalVolume v = small();
        is("damage, log not empty", v.damage(1, 0, 1, 0), false);
        v.sync();
        is("damage, log not empty but safe", v.damage(1, 0, 1, 0), false);
        is("not damaged", v.state(5), 0);
        damageWrongly();
        JournalVolume w = smallInPlace();
        w.write(2, 3, 5);
        w.write(2, 4, 6);
        w.checkpoint();
        is("LINKS of a file", w.damage(0, 2, 9, -1), true);
        is("of(2, 1)", w.of(2, 1), 9);
        is("LINKS of the root", w.damage(0, 0, 3, 0), true);
        is("of(0, 1)", w.of(0, 1), 3);
        is("LINKS of a directory", w.damage(0, 1, 0, 0), true);
        is("of(1, 1)", w.of(1, 1), 0);
        is("a mark goes", w.damage(1, 0, 0, 99), true);
        is("a mark comes", w.damage(1, 63, 1, -99), true);
        states(w, 62, 61, 0, 0, 4, 1);
        is("an extent", w.damage(2, 2, 0, 62), true);
        extents(w, 2, 3, 62, 2);
        is("read(2, 3)", w.read(2, 3), 0);
        is("marks stay", w.state(0), 62);
        is("an extent", w.damage(2, 2, 0, 0), true);
        is("read(2, 4)", w.read(2, 4), 6);
        is("an entry", w.damage(3, 0, 1, 15), true);
        is("find(0, 1)", w.find(0, 1), 15);
        is("find(0, 2)", w.find(0, 2), 2);
        is("of(1, 4)", w.of(1, 4), 0);
        is("an entry of a directory", w.damage(3, 1, 0, 1), true);
        is("find(1, 3)", w.find(1, 3), 1);
        is("PARENT is kept", w.of(1, 4), 0);
        is("LINKS are kept", w.of(1, 1), 0);
        is("an inode", w.damage(4, 2, -7, -7), true);
        is("of(2, 0)", w.of(2, 0), 0);
        is("of(2, 1)", w.of(2, 1), -1);
        is("read(2, 3)", w.read(2, 3), 0);
        is("marks stay", w.state(0), 62);
        is("find(0, 2)", w.find(0, 2), 2);
        is("LINKS of a FREE inode", w.damage(0, 2, 1, 0), false);
        is("a FREE inode", w.damage(4, 2, 0, 0), false);
    }

    private static void damageWrongly() {
        JournalVolume v = smallInPlace();
        v.write(2, 3, 5);
        v.write(2, 4, 6);
        v.checkpoint();
        for (int none : new int[] {-1, LEAST, MOST}) {
            is("what " + none, v.damage(none, 1, 1, 1), false);
            is("LINKS of inode " + none, v.damage(0, none, 1, 0), false);
            is("LINKS " + none, v.damage(0, 2, none, 0), false);
            is("block " + none, v.damage(1, none, 1, 0), false);
            is("mark " + none, v.damage(1, 0, none, 0), false);
            is("file " + none, v.damage(2, none, 0, 0), false);
            is("extent " + none, v.damage(2, 2, none, 0), false);
            is("extent to " + none, v.damage(2, 2, 0, none), false);
            is("directory " + none, v.damage(3, none, 0, 0), false);
            is("entry " + none, v.damage(3, 0, none, 0), false);
            is("entry to " + none, v.damage(3, 0, 0, none), false);
            is("inode " + none, v.damage(4, none, 0, 0), false);
        }
        is("what 5", v.damage(5, 1, 1, 1), false);
        is("LINKS 10", v.damage(0, 2, 10, 0), false);
        is("LINKS of inode 16", v.damage(0, 16, 1, 0), false);
        is("LINKS of a FREE inode", v.damage(0, 4, 1, 0), false);
        is("block 64", v.damage(1, 64, 1, 0), false);
        is("mark 2", v.damage(1, 0, 2, 0), false);
        is("extent of a directory", v.damage(2, 1, 0, 0), false);
        is("extent of a FREE inode", v.damage(2, 4, 0, 0), false);
        is("extent of inode 16", v.damage(2, 16, 0, 0), false);
        is("extent 1 of 1", v.damage(2, 2, 1, 0), false);
        is("extent beyond the blocks", v.damage(2, 2, 0, 63), false);
        is("entry of a file", v.damage(3, 2, 0, 0), false);
        is("entry of a FREE inode", v.damage(3, 4, 0, 0), false);
        is("entry of inode 16", v.damage(3, 16, 0, 0), false);
        is("entry 2 of 2", v.damage(3, 0, 2, 0), false);
        is("entry to inode 16", v.damage(3, 0, 0, 16), false);
        is("the root", v.damage(4, 0, 0, 0), false);
        is("a FREE inode", v.damage(4, 4, 0, 0), false);
        is("inode 16", v.damage(4, 16, 0, 0), false);
        states(v, 62, 62, 0, 0, 4, 0);
    }

    private static void mend() {
        is("log not empty", small().mend(), -1);
        mendings(smallInPlace(), 0, 0, 0, 0, 0);
        mendEntries();
        mendWhatIsFirstInOrder();
        mendInBreadth();
        mendNotMet();
        mendWithFullRoot();
        mendFreedDirectory();
        mendExtents();
        mendMarksAndLinks();
    }

    private static void mendEntries() {
        JournalVolume v = new JournalVolume();
        v.make(0, 1, true);
        v.make(0, 2, false);
        v.make(0, 3, false);
        v.make(0, 4, false);
        v.make(1, 5, true);
        v.checkpoint();
        // The order in the root is 2 (21), 4 (31), 1 (48), 3 (58).
        names(v, 0, 2, 4, 1, 3);
        v.damage(3, 0, 0, 0);
        v.damage(3, 0, 1, 9);
        v.damage(3, 0, 3, 1);
        v.damage(3, 1, 0, 1);
        // Gone: the root, the FREE inode, directory 1 the second time, and directory 1 in itself.
        // Not met: the files 2, 3, 4 and the directory 5.
        mendings(v, 4, 4, 0, 0, 0);
        is("find(0, 1)", v.find(0, 1), 1);
        is("find(0, 50)", v.find(0, 50), 2);
        is("find(0, 51)", v.find(0, 51), 3);
        is("find(0, 52)", v.find(0, 52), 4);
        is("find(0, 53)", v.find(0, 53), 5);
        names(v, 0, 50, 52, 51, 1, 53);
        names(v, 1);
        is("of(5, 4)", v.of(5, 4), 0);
        mendings(v, 0, 0, 0, 0, 0);
    }

    /** The first in the order of the hash is 17. */
    private static void mendWhatIsFirstInOrder() {
        JournalVolume v = new JournalVolume();
        v.make(0, 30, true);
        v.make(0, 31, true);
        v.make(2, 17, true);
        v.make(0, 17, false);
        v.checkpoint();
        mendings(v, 0, 0, 0, 0, 0);
        is("find(2, 17)", v.find(2, 17), 3);
        is("of(3, 4)", v.of(3, 4), 2);
        is("of(4, 1)", v.of(4, 1), 1);
    }

    /** A directory named at two depths is met where it is nearer to the root. */
    private static void mendInBreadth() {
        JournalVolume v = new JournalVolume();
        v.make(0, 5, true);
        v.make(1, 5, true);
        v.make(2, 5, true);
        v.make(0, 10, true);
        v.make(4, 10, false);
        v.checkpoint();
        // Root: 5 (directory 1), 10 (directory 4); 1: directory 2; 2: directory 3; 4: file 5, now directory 3.
        v.damage(3, 4, 0, 3);
        mendings(v, 1, 1, 0, 0, 0);
        is("met in 4", v.find(4, 10), 3);
        is("gone in 2", v.find(2, 5), -1);
        is("of(3, 4)", v.of(3, 4), 4);
        is("find(0, 53)", v.find(0, 53), 5);
        is("LOOP is as PARENT says", v.move(0, 10, 3, 0), -5);
        is("not below 2 any more", v.move(1, 5, 3, 0), 2);
    }

    private static void mendNotMet() {
        JournalVolume v = new JournalVolume();
        v.make(0, 1, true);
        v.make(1, 1, true);
        v.make(2, 1, true);
        v.make(3, 1, false);
        v.make(3, 2, true);
        v.link(0, 9, 4);
        v.checkpoint();
        v.damage(4, 1, 0, 0);
        // 2 is not met, and leads to 3 and 5; 4 is met from the root.
        mendings(v, 1, 1, 0, 0, 0);
        names(v, 0, 50, 9);
        is("of(2, 4)", v.of(2, 4), 0);
        is("of(3, 4)", v.of(3, 4), 2);
        is("of(4, 1)", v.of(4, 1), 2);
        // A circle of the directories 2 and 3 that no way leads to; the name 50 is taken, so that 2 becomes FREE.
        v.damage(3, 0, 0, 4);
        v.damage(3, 3, 1, 2);
        is("find(3, 1)", v.find(3, 1), 2);
        mendings(v, 1, 2, 0, 0, 0);
        is("find(0, 50)", v.find(0, 50), 4);
        is("of(2, 0)", v.of(2, 0), 0);
        is("find(0, 51)", v.find(0, 51), 3);
        is("of(3, 4)", v.of(3, 4), 0);
        names(v, 3, 2);
        is("of(5, 4)", v.of(5, 4), 3);
    }

    private static void mendWithFullRoot() {
        JournalVolume v = new JournalVolume();
        for (int inode = 1; inode < 11; inode++) {
            v.make(0, inode, false);
        }
        v.write(1, 0, 7);
        v.write(1, 1, 8);
        v.checkpoint();
        // The first in order is 5 (4), then 7 (14), 2, 9, 4, 6, 1 (48).
        v.damage(3, 0, 6, 2);
        // Ten entries: file 1 becomes FREE, and its two marks go; file 2 has two links.
        mendings(v, 0, 1, 0, 2, 1);
        is("of(1, 0)", v.of(1, 0), 0);
        is("of(2, 1)", v.of(2, 1), 2);
        states(v, 64, 64, 0, 0, 10, 0);
        is("the root is full", v.make(0, 11, false), -3);
        v.remove(0, 1);
        is("a new one in its place", v.make(0, 11, false), 1);
        is("with no positions", v.of(1, 2), 0);
    }

    /** The name that a lost inode would get is taken. */
    private static void mendFreedDirectory() {
        JournalVolume v = new JournalVolume();
        v.make(0, 49, true);
        v.make(1, 1, false);
        v.make(0, 2, false);
        v.make(1, 9, true);
        v.make(4, 9, false);
        v.checkpoint();
        // The order in the root is 2 (21), 49 (32); 49 names file 3 now, so that 1 is not met.
        names(v, 0, 2, 49);
        v.damage(3, 0, 1, 3);
        mendings(v, 0, 3, 0, 0, 1);
        is("of(1, 0)", v.of(1, 0), 0);
        is("of(3, 1)", v.of(3, 1), 2);
        is("find(0, 50)", v.find(0, 50), 2);
        is("find(0, 52)", v.find(0, 52), 4);
        is("of(4, 4)", v.of(4, 4), 0);
        is("find(4, 9)", v.find(4, 9), 5);
        is("a new directory in its place", v.make(0, 9, true), 1);
        names(v, 1);
    }

    private static void mendExtents() {
        JournalVolume v = new JournalVolume();
        for (int inode = 1; inode < 5; inode++) {
            v.make(0, inode, false);
        }
        for (int n = 0; n < 3; n++) {
            v.write(1, n, 10 + n);
        }
        for (int n = 0; n < 3; n++) {
            v.write(2, n, 20 + n);
        }
        v.write(3, 0, 30);
        v.write(3, 5, 31);
        v.write(4, 0, 40);
        v.checkpoint();
        // File 2 to blocks 2 .. 4 goes for 2; file 3's first to block 4 stays, as what went counts no more;
        // file 3's second to block 4 goes for its own first; file 4 to block 7 stays then.
        v.damage(2, 2, 0, 2);
        v.damage(2, 3, 0, 4);
        v.damage(2, 3, 1, 4);
        v.damage(2, 4, 0, 7);
        is("read(4, 0)", v.read(4, 0), 31);
        // Marks 0 .. 8 were; used are 0 .. 2, 4, 7.
        mendings(v, 0, 0, 2, 4, 0);
        extents(v, 1, 0, 0, 3);
        extents(v, 2);
        extents(v, 3, 0, 4, 1);
        extents(v, 4, 0, 7, 1);
        is("read(3, 0)", v.read(3, 0), 21);
        is("read(4, 0)", v.read(4, 0), 31);
        states(v, 59, 56);
        mendings(v, 0, 0, 0, 0, 0);
    }

    private static void mendMarksAndLinks() {
        JournalVolume v = smallInPlace();
        v.write(2, 0, 1);
        v.checkpoint();
        v.damage(1, 0, 0, 0);
        v.damage(1, 1, 1, 0);
        v.damage(1, 2, 0, 0);
        v.damage(0, 0, 9, 0);
        v.damage(0, 1, 0, 0);
        v.damage(0, 2, 1, 0);
        v.damage(0, 3, 2, 0);
        mendings(v, 0, 0, 0, 2, 3);
        is("of(0, 1)", v.of(0, 1), 0);
        is("of(1, 1)", v.of(1, 1), 1);
        is("of(3, 1)", v.of(3, 1), 1);
        states(v, 63, 63);
        is("calls are taken again", v.write(2, 1, 1), 1);
    }

    private static void mended() {
        JournalVolume v = smallInPlace();
        for (int k = -1; k < 6; k++) {
            is("mended(" + k + ")", v.mended(k), k < 0 || k > 4 ? -1 : 0);
        }
        v.damage(0, 2, 5, 0);
        v.damage(1, 5, 1, 0);
        is("not before mending", v.mended(4), 0);
        mendings(v, 0, 0, 0, 1, 1);
        v.make(0, 9, false);
        is("mend, log not empty", v.mend(), -1);
        is("that was no mending", v.mended(4), 1);
        is("mended(least)", v.mended(LEAST), -1);
        is("mended(most)", v.mended(MOST), -1);
        v.checkpoint();
        v.damage(1, 5, 1, 0);
        is("the latest alone", v.mended(4), 1);
        mendings(v, 0, 0, 0, 1, 0);
        mendings(v, 0, 0, 0, 0, 0);
    }

    private static void find() {
        JournalVolume v = small();
        is("find(0, 1)", v.find(0, 1), 1);
        is("find(0, 2)", v.find(0, 2), 2);
        is("find(1, 3)", v.find(1, 3), 3);
        is("not there", v.find(0, 3), -1);
        is("not there", v.find(1, 1), -1);
        is("in a file", v.find(2, 1), -1);
        is("in a FREE inode", v.find(4, 1), -1);
        for (int none : new int[] {-1, 16, LEAST, MOST}) {
            is("find(" + none + ", 1)", v.find(none, 1), -1);
        }
        for (int none : new int[] {-1, 64, 65, LEAST, MOST}) {
            is("find(0, " + none + ")", v.find(0, none), -1);
        }
        is("when damaged", smallDamaged().find(0, 1), 1);
    }

    private static void entry() {
        JournalVolume v = new JournalVolume();
        for (int name = 0; name < 10; name++) {
            v.make(0, name, false);
        }
        names(v, 0, 5, 0, 7, 2, 9, 4, 6, 1, 8, 3);
        for (int k = 0; k < 10; k++) {
            is("entry(0, " + k + ", 1)", v.entry(0, k, 1), v.entry(0, k, 0) + 1);
        }
        for (int none : new int[] {-1, 10, LEAST, MOST}) {
            is("entry(0, " + none + ", 0)", v.entry(0, none, 0), -1);
            is("entry(0, " + none + ", 1)", v.entry(0, none, 1), -1);
        }
        for (int none : new int[] {-1, 2, LEAST, MOST}) {
            is("entry(0, 0, " + none + ")", v.entry(0, 0, none), -1);
        }
        for (int none : new int[] {-1, 1, 15, 16, LEAST, MOST}) {
            is("entry(" + none + ", 0, 0)", v.entry(none, 0, 0), -1);
        }
        v.checkpoint();
        for (int name = 0; name < 64; name++) {
            JournalVolume one = new JournalVolume();
            one.make(0, name, false);
            is("the name of " + name, one.entry(0, 0, 0), name);
        }
        for (int name = 0; name < 63; name++) {
            JournalVolume two = new JournalVolume();
            two.make(0, name, false);
            two.make(0, name + 1, true);
            boolean behind = (37 * name + 11) % 64 > (37 * name + 48) % 64;
            is("the first of two", two.entry(0, 0, 0), behind ? name + 1 : name);
        }
    }

    private static void of() {
        JournalVolume v = small();
        v.write(3, 0, 1);
        v.write(3, 5, 1);
        v.write(3, 6, 1);
        is("of(0, 2)", v.of(0, 2), 2);
        is("of(1, 2)", v.of(1, 2), 1);
        is("of(2, 2)", v.of(2, 2), 0);
        is("of(3, 2)", v.of(3, 2), 3);
        is("of(3, 3)", v.of(3, 3), 2);
        is("of(2, 3)", v.of(2, 3), 0);
        is("of(1, 3)", v.of(1, 3), -1);
        is("of(0, 3)", v.of(0, 3), -1);
        is("of(2, 4)", v.of(2, 4), -1);
        is("of(4, 0)", v.of(4, 0), 0);
        for (int what = 1; what < 6; what++) {
            is("of(4, " + what + ")", v.of(4, what), -1);
        }
        for (int none : new int[] {-1, 5, LEAST, MOST}) {
            is("of(0, " + none + ")", v.of(0, none), -1);
            is("of(2, " + none + ")", v.of(2, none), -1);
            is("of(4, " + none + ")", v.of(4, none), -1);
        }
        for (int none : new int[] {-1, 16, LEAST, MOST}) {
            for (int what = 0; what < 5; what++) {
                is("of(" + none + ", " + what + ")", v.of(none, what), -1);
            }
        }
    }

    private static void read() {
        JournalVolume v = small();
        v.write(2, 0, -1);
        v.write(2, 23, 5);
        v.write(3, 0, 6);
        is("read(2, 0)", v.read(2, 0), -1);
        is("read(2, 23)", v.read(2, 23), 5);
        is("read(3, 0)", v.read(3, 0), 6);
        is("a hole", v.read(2, 1), 0);
        is("a directory", v.read(1, 0), 0);
        is("a FREE inode", v.read(4, 0), 0);
        for (int none : new int[] {-1, 24, LEAST, MOST}) {
            is("read(2, " + none + ")", v.read(2, none), 0);
        }
        for (int none : new int[] {-1, 16, LEAST, MOST}) {
            is("read(" + none + ", 0)", v.read(none, 0), 0);
        }
        v.punch(2, 0, 1);
        is("a new hole", v.read(2, 0), 0);
        v.checkpoint();
        v.damage(2, 3, 0, 0);
        is("a block holds what it held", v.read(3, 0), -1);
    }

    private static void extent() {
        JournalVolume v = small();
        for (int n = 0; n < 4; n++) {
            v.write(2, n, 0);
        }
        v.write(3, 0, 0);
        v.write(2, 4, 0);
        v.write(2, 23, 0);
        extents(v, 2, 0, 0, 4, 4, 5, 1, 23, 6, 1);
        v.punch(2, 1, 1);
        extents(v, 2, 0, 0, 1, 2, 2, 2, 4, 5, 1, 23, 6, 1);
        for (int none : new int[] {-1, 3, LEAST, MOST}) {
            is("extent(2, 0, " + none + ")", v.extent(2, 0, none), -1);
        }
        for (int none : new int[] {-1, 4, LEAST, MOST}) {
            is("extent(2, " + none + ", 0)", v.extent(2, none, 0), -1);
        }
        for (int none : new int[] {-1, 0, 1, 4, 16, LEAST, MOST}) {
            is("extent(" + none + ", 0, 0)", v.extent(none, 0, 0), -1);
        }
        v.checkpoint();
        v.damage(2, 2, 2, 4);
        extents(v, 2, 0, 0, 1, 2, 2, 3, 23, 6, 1);
        blocksGoingDown();
        neighboursInBlocksAlone();
    }

    private static void blocksGoingDown() {
        JournalVolume v = small();
        is("write(2, 5, 0)", v.write(2, 5, 0), 0);
        is("write(2, 4, 0)", v.write(2, 4, 0), 1);
        extents(v, 2, 4, 1, 1, 5, 0, 1);
    }

    private static void neighboursInBlocksAlone() {
        JournalVolume v = small();
        is("write(2, 5, 0)", v.write(2, 5, 0), 0);
        is("write(2, 7, 0)", v.write(2, 7, 0), 1);
        extents(v, 2, 5, 0, 1, 7, 1, 1);
    }

    private static void state() {
        JournalVolume v = small();
        states(v, 64, 64, 3, 0, 4, 0);
        v.write(2, 0, 1);
        v.write(3, 0, 1);
        v.write(2, 9, 1);
        v.sync();
        v.punch(3, 0, 1);
        states(v, 62, 61, 7, 6, 4, 0);
        for (int none : new int[] {-1, 6, LEAST, MOST}) {
            is("state(" + none + ")", v.state(none), -1);
        }
        v.checkpoint();
        v.damage(1, 33, 1, 0);
        states(v, 61, 30, 0, 0, 4, 1);
        v.damage(1, 33, 0, 0);
        states(v, 62, 61, 0, 0, 4, 1);
        v.damage(4, 1, 0, 0);
        states(v, 62, 61, 0, 0, 3, 1);
    }

    private static void orderAndLimits() {
        JournalVolume v = fullDirectory();
        for (int n = 0; n < 24; n++) {
            v.write(2, 0, n);
        }
        is("make: REFUSED", v.make(2, 20, true), -1);
        is("make: EXISTS", v.make(1, 20, true), -2);
        is("make: FULL", v.make(1, 40, true), -3);
        is("link: REFUSED", v.link(1, 20, 1), -1);
        is("link: EXISTS", v.link(1, 20, 2), -2);
        is("link: FULL", v.link(1, 40, 2), -3);
        is("remove: REFUSED", v.remove(0, 40), -1);
        is("remove: NOT_EMPTY", v.remove(0, 1), -4);
        is("remove: FULL", v.remove(0, 2), -3);
        is("move: REFUSED", v.move(0, 40, 1, 20), -1);
        is("move: EXISTS", v.move(0, 1, 1, 20), -2);
        is("move: LOOP", v.move(0, 1, 1, 40), -5);
        is("move: FULL", v.move(0, 2, 1, 40), -3);
        is("write: REFUSED", v.write(1, 0, 0), -1);
        is("write: FULL", v.write(2, 0, 0), -3);
        is("punch: REFUSED", v.punch(2, 23, 2), -1);
        is("punch: FULL", v.punch(2, 23, 1), -3);
        is("none is a record", v.state(2), 24);
        is("REFUSED", JournalVolume.REFUSED, -1);
        is("EXISTS", JournalVolume.EXISTS, -2);
        is("FULL", JournalVolume.FULL, -3);
        is("NOT_EMPTY", JournalVolume.NOT_EMPTY, -4);
        is("LOOP", JournalVolume.LOOP, -5);
        extentsThatWent();
    }

    private static void extentsThatWent() {
        JournalVolume v = new JournalVolume();
        for (int inode = 1; inode < 4; inode++) {
            v.make(0, inode, false);
            v.write(inode, 0, inode);
            v.write(inode, 1, inode);
        }
        v.checkpoint();
        v.damage(2, 2, 0, 1);
        v.damage(2, 3, 0, 2);
        // File 2 (blocks 1, 2) goes for file 1 (0, 1); file 3 (2, 3) has but the block of file 2 in common.
        mendings(v, 0, 0, 1, 2, 0);
        extents(v, 2);
        extents(v, 3, 0, 2, 2);
        is("read(3, 1)", v.read(3, 1), 2);
    }

    public static void main(String[] args) {
        Runnable[] promises = {
            PromiseTests::newObject, PromiseTests::make, PromiseTests::link, PromiseTests::remove,
            PromiseTests::move, PromiseTests::write, PromiseTests::punch, PromiseTests::sync,
            PromiseTests::checkpoint, PromiseTests::crash, PromiseTests::damage, PromiseTests::mend,
            PromiseTests::mended, PromiseTests::find, PromiseTests::entry, PromiseTests::of,
            PromiseTests::read, PromiseTests::extent, PromiseTests::state, PromiseTests::orderAndLimits};
        for (Runnable each : promises) {
            promise++;
            each.run();
        }
        System.out.println(wrong == 0 ? "all promises hold" : wrong + " answers are not as due");
        if (wrong != 0) {
            System.exit(1);
        }
    }
}
