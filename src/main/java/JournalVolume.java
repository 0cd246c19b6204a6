public final class JournalVolume {
    public static final int REFUSED = -1, EXISTS = -2, FULL = -3, NOT_EMPTY = -4, LOOP = -5;

    private static final int INODES = 16, NAMES = 64, POSITIONS = 24, BLOCKS = 64;
    private static final int MOST_ENTRIES = 10, MOST_EXTENTS = 5, MOST_LINKS = 9, MOST_RECORDS = 24;
    private static final int FREE = 0, FILE = 1, DIRECTORY = 2;
    private static final int ROOT = 0, NONE = -1, FIRST_RESCUE_NAME = 48;
    private static final int ENTRIES_GONE = 0, NOT_MET = 1, EXTENTS_GONE = 2, MARKS_CHANGED = 3, LINKS_CHANGED = 4;
    private static final int KINDS_OF_MENDING = 5;
    private static final int ALL_SPOTS = INODES * NAMES, ALL_POSITIONS = INODES * POSITIONS;
    private static final int INODES_BEFORE = MOST_RECORDS * INODES, BLOCKS_BEFORE = MOST_RECORDS * BLOCKS;
    private static final int SPOTS_BEFORE = MOST_RECORDS * ALL_SPOTS, POSITIONS_BEFORE = MOST_RECORDS * ALL_POSITIONS;

    private final int[] kind = new int[INODES];
    private final int[] links = new int[INODES];
    private final int[] parent = new int[INODES];
    // A directory's entries lie at the hash of their names, so that going along the row is going in their order.
    private final int[] named = new int[ALL_SPOTS];
    private final int[] mapped = new int[ALL_POSITIONS];
    private final int[] marked = new int[BLOCKS];
    private final int[] held = new int[BLOCKS];

    // What all was before each record of the log, so that a crash can go back to there.
    private final int[] kindBefore = new int[INODES_BEFORE];
    private final int[] linksBefore = new int[INODES_BEFORE];
    private final int[] parentBefore = new int[INODES_BEFORE];
    private final int[] namedBefore = new int[SPOTS_BEFORE];
    private final int[] mappedBefore = new int[POSITIONS_BEFORE];
    private final int[] markedBefore = new int[BLOCKS_BEFORE];
    private final int[] heldBefore = new int[BLOCKS_BEFORE];
    private int records;
    private int safe;

    private boolean damaged;
    private final int[] mendings = new int[KINDS_OF_MENDING];
    private final boolean[] met = new boolean[INODES];
    private final int[] waiting = new int[INODES];
    private int waitingMany;
    private final int[] used = new int[BLOCKS];

    public JournalVolume() {
        for (int spot = 0; spot < ALL_SPOTS; spot++) {
            named[spot] = NONE;
        }
        for (int place = 0; place < ALL_POSITIONS; place++) {
            mapped[place] = NONE;
        }
        kind[ROOT] = DIRECTORY;
        parent[ROOT] = ROOT;
    }

    public int make(int dir, int name, boolean directory) {
        if (damaged || !isDirectory(dir) || !isName(name)) {
            return REFUSED;
        }
        int spot = spotOf(dir, name);
        if (named[spot] != NONE) {
            return EXISTS;
        }
        int inode = firstFree();
        if (inode == NONE || isFullDirectory(dir) || isFullLog()) {
            return FULL;
        }
        openRecord();
        kind[inode] = directory ? DIRECTORY : FILE;
        links[inode] = 1;
        parent[inode] = dir;
        named[spot] = inode;
        return inode;
    }

    public int link(int dir, int name, int file) {
        if (damaged || !isDirectory(dir) || !isName(name) || !isFile(file) || links[file] >= MOST_LINKS) {
            return REFUSED;
        }
        int spot = spotOf(dir, name);
        if (named[spot] != NONE) {
            return EXISTS;
        }
        if (isFullDirectory(dir) || isFullLog()) {
            return FULL;
        }
        openRecord();
        named[spot] = file;
        links[file]++;
        return links[file];
    }

    public int remove(int dir, int name) {
        if (damaged || !hasEntry(dir, name)) {
            return REFUSED;
        }
        int spot = spotOf(dir, name);
        int inode = named[spot];
        if (kind[inode] == DIRECTORY && countEntries(inode) > 0) {
            return NOT_EMPTY;
        }
        if (isFullLog()) {
            return FULL;
        }
        openRecord();
        named[spot] = NONE;
        links[inode]--;
        if (links[inode] <= 0) {
            makeHoles(inode, 0, POSITIONS);
            makeFree(inode);
        }
        return inode;
    }

    public int move(int dir, int name, int to, int other) {
        if (damaged || !hasEntry(dir, name) || !isDirectory(to) || !isName(other)) {
            return REFUSED;
        }
        int from = spotOf(dir, name);
        int into = spotOf(to, other);
        int inode = named[from];
        if (named[into] != NONE) {
            return EXISTS;
        }
        if (isAtOrAbove(inode, to)) {
            return LOOP;
        }
        if (to != dir && isFullDirectory(to) || isFullLog()) {
            return FULL;
        }
        openRecord();
        named[from] = NONE;
        named[into] = inode;
        if (kind[inode] == DIRECTORY) {
            parent[inode] = to;
        }
        return inode;
    }

    public int write(int file, int position, int v) {
        if (damaged || !isFile(file) || !isPosition(position)) {
            return REFUSED;
        }
        if (isFullLog()) {
            return FULL;
        }
        int place = file * POSITIONS + position;
        int block = mapped[place];
        if (block == NONE) {
            block = chooseBlock(file, position);
        }
        if (block == NONE) {
            return FULL;
        }
        openRecord();
        mapped[place] = block;
        marked[block] = 1;
        held[block] = v;
        if (tookBackSixthExtent(file)) {
            return FULL;
        }
        return block;
    }

    public int punch(int file, int from, int many) {
        if (damaged || !isFile(file) || !isPosition(from) || many < 1 || many > POSITIONS - from) {
            return REFUSED;
        }
        if (isFullLog()) {
            return FULL;
        }
        int before = countMapped(file);
        openRecord();
        makeHoles(file, from, many);
        if (tookBackSixthExtent(file)) {
            return FULL;
        }
        int after = countMapped(file);
        return before - after;
    }

    public int sync() {
        int fresh = records - safe;
        safe = records;
        return fresh;
    }

    public int checkpoint() {
        int had = records;
        records = 0;
        safe = 0;
        return had;
    }

    public int crash(int j) {
        if (j < 0 || j > MOST_RECORDS) {
            return REFUSED;
        }
        int fresh = records - safe;
        int lost = fresh > j ? fresh - j : 0;
        if (lost > 0) {
            loseRecordsBehind(records - lost);
        }
        safe = records;
        return lost;
    }

    public boolean damage(int what, int a, int b, int c) {
        if (records > 0) {
            return false;
        }
        boolean done = false;
        switch (what) {
            case 0:
                done = damageLinks(a, b);
                break;
            case 1:
                done = damageMark(a, b);
                break;
            case 2:
                done = damageExtent(a, b, c);
                break;
            case 3:
                done = damageEntry(a, b, c);
                break;
            case 4:
                done = damageInode(a);
                break;
            default:
                break;
        }
        damaged = damaged || done;
        return done;
    }

    public int mend() {
        if (records > 0) {
            return REFUSED;
        }
        for (int k = 0; k < KINDS_OF_MENDING; k++) {
            mendings[k] = 0;
        }
        meetFromRoot();
        for (int inode = 1; inode < INODES; inode++) {
            if (kind[inode] != FREE && !met[inode]) {
                rescue(inode);
            }
        }
        dropSharedExtents();
        mendMarks();
        mendLinks();
        damaged = false;
        int all = 0;
        for (int k = 0; k < KINDS_OF_MENDING; k++) {
            all += mendings[k];
        }
        return all;
    }

    public int mended(int k) {
        return k >= 0 && k < KINDS_OF_MENDING ? mendings[k] : REFUSED;
    }

    public int find(int dir, int name) {
        if (!hasEntry(dir, name)) {
            return REFUSED;
        }
        int spot = spotOf(dir, name);
        return named[spot];
    }

    public int entry(int dir, int k, int what) {
        if (!isDirectory(dir) || what < 0 || what > 1) {
            return REFUSED;
        }
        int spot = spotOfEntry(dir, k);
        if (spot == NONE) {
            return REFUSED;
        }
        return what == 0 ? nameAt(spot) : named[spot];
    }

    public int of(int inode, int what) {
        if (!isInode(inode)) {
            return REFUSED;
        }
        if (what == 0) {
            return kind[inode];
        }
        if (kind[inode] == FREE) {
            return REFUSED;
        }
        boolean directory = kind[inode] == DIRECTORY;
        switch (what) {
            case 1:
                return links[inode];
            case 2:
                return directory ? countEntries(inode) : countMapped(inode);
            case 3:
                return directory ? REFUSED : countExtents(inode);
            case 4:
                return directory ? parent[inode] : REFUSED;
            default:
                return REFUSED;
        }
    }

    public int read(int file, int position) {
        if (!isFile(file) || !isPosition(position)) {
            return 0;
        }
        int block = mapped[file * POSITIONS + position];
        return block == NONE ? 0 : held[block];
    }

    public int extent(int file, int k, int what) {
        if (!isFile(file)) {
            return REFUSED;
        }
        int first = startOfExtent(file, k);
        if (first == NONE) {
            return REFUSED;
        }
        switch (what) {
            case 0:
                return first;
            case 1:
                return mapped[file * POSITIONS + first];
            case 2:
                return lengthOfExtent(file, first);
            default:
                return REFUSED;
        }
    }

    public int state(int what) {
        switch (what) {
            case 0:
                return countUnmarked();
            case 1:
                return lengthOfLongestRow();
            case 2:
                return records;
            case 3:
                return safe;
            case 4:
                return countInodes();
            case 5:
                return damaged ? 1 : 0;
            default:
                return REFUSED;
        }
    }

    private static boolean isInode(int inode) {
        return inode >= 0 && inode < INODES;
    }

    private static boolean isName(int name) {
        return name >= 0 && name < NAMES;
    }

    private static boolean isPosition(int position) {
        return position >= 0 && position < POSITIONS;
    }

    private static boolean isBlock(int block) {
        return block >= 0 && block < BLOCKS;
    }

    private boolean isFile(int inode) {
        return isInode(inode) && kind[inode] == FILE;
    }

    private boolean isDirectory(int inode) {
        return isInode(inode) && kind[inode] == DIRECTORY;
    }

    private boolean isFullDirectory(int dir) {
        return countEntries(dir) >= MOST_ENTRIES;
    }

    private boolean isFullLog() {
        return records >= MOST_RECORDS;
    }

    private boolean hasEntry(int dir, int name) {
        if (!isDirectory(dir) || !isName(name)) {
            return false;
        }
        int spot = spotOf(dir, name);
        return named[spot] != NONE;
    }

    private static int spotOf(int dir, int name) {
        return dir * NAMES + (37 * name + 11) % NAMES;
    }

    private static int nameAt(int spot) {
        // The hash backwards: 45 * 37 is 1 modulo 64, and 53 is -11.
        return 45 * (spot % NAMES + 53) % NAMES;
    }

    private int spotOfEntry(int dir, int k) {
        int before = 0;
        for (int spot = dir * NAMES; spot < (dir + 1) * NAMES; spot++) {
            if (named[spot] != NONE) {
                if (before == k) {
                    return spot;
                }
                before++;
            }
        }
        return NONE;
    }

    private int countEntries(int dir) {
        int many = 0;
        for (int spot = dir * NAMES; spot < (dir + 1) * NAMES; spot++) {
            if (named[spot] != NONE) {
                many++;
            }
        }
        return many;
    }

    private int countNaming(int inode) {
        int many = 0;
        for (int spot = 0; spot < ALL_SPOTS; spot++) {
            if (named[spot] == inode) {
                many++;
            }
        }
        return many;
    }

    private int firstFree() {
        for (int inode = 0; inode < INODES; inode++) {
            if (kind[inode] == FREE) {
                return inode;
            }
        }
        return NONE;
    }

    private int countInodes() {
        int many = 0;
        for (int inode = 0; inode < INODES; inode++) {
            if (kind[inode] != FREE) {
                many++;
            }
        }
        return many;
    }

    private boolean isAtOrAbove(int inode, int dir) {
        int at = dir;
        // No way up is longer than there are inodes.
        for (int steps = 0; steps < INODES; steps++) {
            if (at == inode) {
                return true;
            }
            at = parent[at];
        }
        return false;
    }

    private void makeFree(int inode) {
        kind[inode] = FREE;
        links[inode] = 0;
        parent[inode] = ROOT;
        for (int spot = inode * NAMES; spot < (inode + 1) * NAMES; spot++) {
            named[spot] = NONE;
        }
        for (int place = inode * POSITIONS; place < (inode + 1) * POSITIONS; place++) {
            mapped[place] = NONE;
        }
    }

    private void makeHoles(int file, int from, int many) {
        int first = file * POSITIONS + from;
        for (int place = first; place < first + many; place++) {
            if (mapped[place] != NONE) {
                marked[mapped[place]] = 0;
                mapped[place] = NONE;
            }
        }
    }

    private int countMapped(int file) {
        int many = 0;
        for (int place = file * POSITIONS; place < (file + 1) * POSITIONS; place++) {
            if (mapped[place] != NONE) {
                many++;
            }
        }
        return many;
    }

    private boolean startsExtent(int file, int position) {
        int place = file * POSITIONS + position;
        if (mapped[place] == NONE) {
            return false;
        }
        return position == 0 || mapped[place - 1] == NONE || mapped[place - 1] + 1 != mapped[place];
    }

    private int countExtents(int file) {
        int many = 0;
        for (int position = 0; position < POSITIONS; position++) {
            if (startsExtent(file, position)) {
                many++;
            }
        }
        return many;
    }

    private boolean tookBackSixthExtent(int file) {
        // A new block may join two extents or none, so their number is only known once the change is made.
        if (countExtents(file) <= MOST_EXTENTS) {
            return false;
        }
        loseRecordsBehind(records - 1);
        return true;
    }

    private int startOfExtent(int file, int k) {
        int before = 0;
        for (int position = 0; position < POSITIONS; position++) {
            if (startsExtent(file, position)) {
                if (before == k) {
                    return position;
                }
                before++;
            }
        }
        return NONE;
    }

    private int lengthOfExtent(int file, int first) {
        int length = 1;
        for (int position = first + 1; position < POSITIONS; position++) {
            if (mapped[file * POSITIONS + position] == NONE || startsExtent(file, position)) {
                break;
            }
            length++;
        }
        return length;
    }

    private int chooseBlock(int file, int position) {
        int place = file * POSITIONS + position;
        if (position > 0 && mapped[place - 1] != NONE) {
            int behind = mapped[place - 1] + 1;
            if (isBlock(behind) && marked[behind] == 0) {
                return behind;
            }
        }
        if (position < POSITIONS - 1 && mapped[place + 1] != NONE) {
            int before = mapped[place + 1] - 1;
            if (isBlock(before) && marked[before] == 0) {
                return before;
            }
        }
        return startOfLongestRow();
    }

    private int startOfLongestRow() {
        int start = NONE;
        int longest = 0;
        int length = 0;
        for (int block = 0; block < BLOCKS; block++) {
            length = marked[block] == 0 ? length + 1 : 0;
            if (length > longest) {
                longest = length;
                start = block - length + 1;
            }
        }
        return start;
    }

    private int lengthOfLongestRow() {
        int start = startOfLongestRow();
        if (start == NONE) {
            return 0;
        }
        int length = 0;
        for (int block = start; block < BLOCKS && marked[block] == 0; block++) {
            length++;
        }
        return length;
    }

    private int countUnmarked() {
        int many = 0;
        for (int block = 0; block < BLOCKS; block++) {
            if (marked[block] == 0) {
                many++;
            }
        }
        return many;
    }

    private void openRecord() {
        copy(kind, 0, kindBefore, records * INODES, INODES);
        copy(links, 0, linksBefore, records * INODES, INODES);
        copy(parent, 0, parentBefore, records * INODES, INODES);
        copy(named, 0, namedBefore, records * ALL_SPOTS, ALL_SPOTS);
        copy(mapped, 0, mappedBefore, records * ALL_POSITIONS, ALL_POSITIONS);
        copy(marked, 0, markedBefore, records * BLOCKS, BLOCKS);
        copy(held, 0, heldBefore, records * BLOCKS, BLOCKS);
        records++;
    }

    private void loseRecordsBehind(int left) {
        copy(kindBefore, left * INODES, kind, 0, INODES);
        copy(linksBefore, left * INODES, links, 0, INODES);
        copy(parentBefore, left * INODES, parent, 0, INODES);
        copy(namedBefore, left * ALL_SPOTS, named, 0, ALL_SPOTS);
        copy(mappedBefore, left * ALL_POSITIONS, mapped, 0, ALL_POSITIONS);
        copy(markedBefore, left * BLOCKS, marked, 0, BLOCKS);
        copy(heldBefore, left * BLOCKS, held, 0, BLOCKS);
        records = left;
    }

    private static void copy(int[] from, int first, int[] to, int into, int many) {
        for (int n = 0; n < many; n++) {
            to[into + n] = from[first + n];
        }
    }

    private boolean damageLinks(int inode, int many) {
        if (!isInode(inode) || kind[inode] == FREE || many < 0 || many > MOST_LINKS) {
            return false;
        }
        links[inode] = many;
        return true;
    }

    private boolean damageMark(int block, int mark) {
        if (!isBlock(block) || mark < 0 || mark > 1) {
            return false;
        }
        marked[block] = mark;
        return true;
    }

    private boolean damageExtent(int file, int k, int block) {
        if (!isFile(file)) {
            return false;
        }
        int first = startOfExtent(file, k);
        if (first == NONE) {
            return false;
        }
        int length = lengthOfExtent(file, first);
        if (block < 0 || block > BLOCKS - length) {
            return false;
        }
        for (int n = 0; n < length; n++) {
            mapped[file * POSITIONS + first + n] = block + n;
        }
        return true;
    }

    private boolean damageEntry(int dir, int k, int inode) {
        if (!isDirectory(dir) || !isInode(inode)) {
            return false;
        }
        int spot = spotOfEntry(dir, k);
        if (spot == NONE) {
            return false;
        }
        named[spot] = inode;
        return true;
    }

    private boolean damageInode(int inode) {
        if (!isInode(inode) || inode == ROOT || kind[inode] == FREE) {
            return false;
        }
        makeFree(inode);
        return true;
    }

    private void meetFromRoot() {
        for (int inode = 0; inode < INODES; inode++) {
            met[inode] = false;
        }
        waitingMany = 0;
        meet(ROOT, ROOT);
        goThroughWaiting();
    }

    private void rescue(int inode) {
        mendings[NOT_MET]++;
        int spot = spotOf(ROOT, FIRST_RESCUE_NAME + inode);
        if (named[spot] != NONE || isFullDirectory(ROOT)) {
            // Its blocks stay marked here: mending marks comes later and counts them.
            makeFree(inode);
            return;
        }
        named[spot] = inode;
        waitingMany = 0;
        meet(inode, ROOT);
        goThroughWaiting();
    }

    private void meet(int inode, int dir) {
        met[inode] = true;
        if (kind[inode] == DIRECTORY) {
            parent[inode] = dir;
            waiting[waitingMany] = inode;
            waitingMany++;
        }
    }

    private void goThroughWaiting() {
        // Each directory is met once, so that there are never more waiting than inodes.
        for (int next = 0; next < waitingMany && next < INODES; next++) {
            goThrough(waiting[next]);
        }
    }

    private void goThrough(int dir) {
        for (int spot = dir * NAMES; spot < (dir + 1) * NAMES; spot++) {
            int inode = named[spot];
            if (inode == NONE) {
                continue;
            }
            if (mustNotBeNamed(inode)) {
                named[spot] = NONE;
                mendings[ENTRIES_GONE]++;
            } else {
                meet(inode, dir);
            }
        }
    }

    private boolean mustNotBeNamed(int inode) {
        return inode == ROOT || kind[inode] == FREE || kind[inode] == DIRECTORY && met[inode];
    }

    private void dropSharedExtents() {
        for (int block = 0; block < BLOCKS; block++) {
            used[block] = 0;
        }
        for (int file = 0; file < INODES; file++) {
            for (int position = 0; position < POSITIONS; position++) {
                if (kind[file] == FILE && startsExtent(file, position)) {
                    useOrDrop(file, position);
                }
            }
        }
    }

    private void useOrDrop(int file, int first) {
        int place = file * POSITIONS + first;
        int length = lengthOfExtent(file, first);
        boolean shared = false;
        for (int n = 0; n < length; n++) {
            shared = shared || used[mapped[place + n]] == 1;
        }
        for (int n = 0; n < length; n++) {
            if (shared) {
                mapped[place + n] = NONE;
            } else {
                used[mapped[place + n]] = 1;
            }
        }
        if (shared) {
            mendings[EXTENTS_GONE]++;
        }
    }

    private void mendMarks() {
        for (int block = 0; block < BLOCKS; block++) {
            if (marked[block] != used[block]) {
                marked[block] = used[block];
                mendings[MARKS_CHANGED]++;
            }
        }
    }

    private void mendLinks() {
        for (int inode = 0; inode < INODES; inode++) {
            int many = countNaming(inode);
            if (kind[inode] != FREE && links[inode] != many) {
                links[inode] = many;
                mendings[LINKS_CHANGED]++;
            }
        }
    }
}
