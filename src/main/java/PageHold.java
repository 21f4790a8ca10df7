import java.util.Arrays;

/**
 * A cache of pages between twelve files and a disk.
 *
 * A page is known inside by its SPOT, 256 times its file and its number in it, so that rising
 * spots are "by files, then pages".
 */
public final class PageHold {
    public static final int NONE = -1;
    public static final int BAD = -2;
    public static final int NO_FRAME = -3;
    public static final int NO_ROOM = -4;
    public static final int DEFECT = -5;

    private static final int FILES = 12;
    private static final int PAGES = 256;
    private static final int PAGE_BYTES = 64;
    private static final int SPOTS = FILES * PAGES;
    private static final int SIZE_MOST = PAGES * PAGE_BYTES;
    private static final int ROW_MOST = 1024;
    private static final int LONG_BYTES = 8;
    private static final int WINDOW_MOST = 8;
    private static final int SECONDS_MOST = 1000;
    private static final int AGE_DUE = 5;
    private static final int AGED_MOST = 4;
    private static final int READ = 0;
    private static final int WRITE = 1;
    /** No call does more: a read brings in 17 times 8 pages at most, and writes 64 at most. */
    private static final int RUNS_MOST = 256;

    private final Disk store;
    private final Files files;
    private final Frames frames;
    private final Shadows shadows;
    private final int[] blockOf = new int[SPOTS];
    private final Words inHand = new Words(ROW_MOST);
    private final Words toWrite = new Words(ROW_MOST);
    private int handCount = 0;
    private int now = 0;

    public PageHold(int frames, int blocks) {
        int frameCount = frames < 4 || frames > 64 ? 16 : frames;
        int blockCount = blocks < 8 || blocks > 512 ? 128 : blocks;
        this.store = new Disk(blockCount);
        this.files = new Files();
        this.frames = new Frames(frameCount);
        this.shadows = new Shadows(frameCount);
        Arrays.fill(blockOf, NONE);
    }

    // ---- bytes

    public int read(int file, int at, int n) {
        if (!isFile(file) || at < 0 || n < 1 || n > ROW_MOST) {
            return BAD;
        }
        store.begin();
        int length = files.sizes[file];
        if (at >= length) {
            handCount = 0;
            return 0;
        }
        int end = Math.min(at + n, length);
        int done = 0;
        for (int page = at / PAGE_BYTES; page * PAGE_BYTES < end; page++) {
            int stop = readPage(file, page, at, end);
            if (stop == NONE) {
                return done == 0 ? NO_FRAME : done;
            }
            done = stop - at;
            handCount = done;
        }
        return done;
    }

    public int hand(int i) {
        return i < 0 || i >= handCount ? NONE : inHand.byteAt(i);
    }

    public int write(int file, int at, long row, int n) {
        if (n < 1 || n > LONG_BYTES || !isStretch(file, at, n)) {
            return BAD;
        }
        for (int i = 0; i < n; i++) {
            toWrite.put(i, (int) (row >>> (8 * i)));
        }
        return putRow(file, at, n);
    }

    public int fill(int file, int at, int n, int v) {
        if (n < 1 || n > ROW_MOST || !isStretch(file, at, n)) {
            return BAD;
        }
        for (int i = 0; i < n; i++) {
            toWrite.put(i, v + 3 * i);
        }
        return putRow(file, at, n);
    }

    public int truncate(int file, int size) {
        if (!isFile(file) || size < 0 || size > SIZE_MOST) {
            return BAD;
        }
        store.begin();
        int had = files.sizes[file];
        files.sizes[file] = size;
        if (size >= had) {
            return had;
        }
        for (int page = pagesIn(size); page < PAGES; page++) {
            makeHole(spotOf(file, page));
        }
        return cutLastPage(file, size) ? had : NO_FRAME;
    }

    public int punch(int file, int page, int n) {
        if (!isFile(file) || !isPage(page) || n < 1 || n > PAGES) {
            return BAD;
        }
        int end = Math.min(PAGES, page + n);
        int holes = 0;
        for (int p = page; p < end; p++) {
            if (makeHole(spotOf(file, p))) {
                holes++;
            }
        }
        return holes;
    }

    // ---- to the disk

    public int sync(int file) {
        if (!isFile(file)) {
            return BAD;
        }
        store.begin();
        int wrote = 0;
        for (int page = 0; page < PAGES; page++) {
            int f = frames.frameOf(spotOf(file, page));
            if (frames.isDirty(f) && flush(f)) {
                wrote++;
            }
        }
        int error = files.errors[file];
        files.errors[file] = 0;
        return error != 0 ? error : wrote;
    }

    public int syncAll() {
        store.begin();
        for (int spot = 0; spot < SPOTS; spot++) {
            if (frames.isDirty(frames.frameOf(spot))) {
                giveBlock(spot);
            }
        }
        int wrote = 0;
        int block = leastDirtyBlock(NONE);
        for (int i = 0; i < frames.most && block != NONE; i++) {
            if (flush(dirtyFrameAt(block))) {
                wrote++;
            }
            block = leastDirtyBlock(block);
        }
        return wrote;
    }

    public int tick(int seconds) {
        if (seconds < 0 || seconds > SECONDS_MOST) {
            return BAD;
        }
        store.begin();
        int wrote = 0;
        for (int i = 0; i < seconds; i++) {
            now++;
            wrote += writeAged();
        }
        return wrote;
    }

    public int drop() {
        int dropped = 0;
        for (int spot = 0; spot < SPOTS; spot++) {
            int f = frames.frameOf(spot);
            if (f != NONE && !frames.isDirty(f) && !frames.pinned[f]) {
                evict(f);
                dropped++;
            }
        }
        return dropped;
    }

    public int crash() {
        int lost = frames.dirtyCount;
        for (int f = 0; f < frames.most; f++) {
            frames.leave(f);
        }
        shadows.forgetAll();
        files.reset();
        handCount = 0;
        return lost;
    }

    public boolean fail(int block, boolean fails) {
        if (!store.has(block) || store.fails[block] == fails) {
            return false;
        }
        store.fails[block] = fails;
        return true;
    }

    public boolean pin(int file, int page, boolean pinned) {
        if (!isFile(file) || !isPage(page)) {
            return false;
        }
        int spot = spotOf(file, page);
        int f = frames.frameOf(spot);
        boolean was = f != NONE && frames.pinned[f];
        if (!pinned) {
            frames.setPinned(f, false);
            return was;
        }
        boolean full = !was && frames.pinnedCount >= frames.most / 2;
        if (full || page >= pagesIn(files.sizes[file])) {
            return false;
        }
        store.begin();
        frames.setPinned(touch(spot), true);
        return was;
    }

    // ---- what there is

    public int size(int file) {
        return isFile(file) ? files.sizes[file] : BAD;
    }

    public int page(int file, int page, int what) {
        if (!isFile(file) || !isPage(page)) {
            return BAD;
        }
        int spot = spotOf(file, page);
        int f = frames.frameOf(spot);
        switch (what) {
            case 0: return f;
            case 1: return blockOf[spot];
            case 2: return f == NONE ? NONE : frames.since[f];
            case 3: return shadows.of(spot);
            case 4: return frames.placeOf(f);
            case 5: return f != NONE && frames.referenced[f] ? 1 : 0;
            case 6: return f != NONE && frames.pinned[f] ? 1 : 0;
            case 7: return f != NONE && frames.onActive[f] ? 1 : 0;
            default: return BAD;
        }
    }

    public int next(int file, int page, int mark) {
        if (!isFile(file) || !isPage(page) || mark < 0 || mark > 4) {
            return BAD;
        }
        for (int p = page; p < PAGES; p++) {
            if (isMarked(spotOf(file, p), mark)) {
                return p;
            }
        }
        return NONE;
    }

    public int tree(int file, int what) {
        if (!isFile(file)) {
            return BAD;
        }
        switch (what) {
            case 0: return treeHeight(file);
            case 1: return treeNodes(file);
            case 2: return treeEntries(file);
            case 3: return files.windows[file];
            case 4: return files.goOn[file];
            case 5: return files.errors[file];
            default: return BAD;
        }
    }

    public int listed(boolean active, int k) {
        int f = active ? frames.active.at(k) : frames.inactive.at(k);
        return f == NONE ? NONE : frames.spots[f];
    }

    public int disk(int block, int i) {
        if (!store.has(block) || i < 0 || i >= PAGE_BYTES) {
            return BAD;
        }
        return store.bytes.byteAt(block * PAGE_BYTES + i);
    }

    public int run(int k, int what) {
        if (what < 0 || what > 2) {
            return BAD;
        }
        if (k < 0 || k >= store.runs) {
            return NONE;
        }
        switch (what) {
            case 0: return store.kinds[k];
            case 1: return store.firsts[k];
            default: return store.lengths[k];
        }
    }

    public int told(int what) {
        switch (what) {
            case 0: return frames.active.count + frames.inactive.count;
            case 1: return frames.active.count;
            case 2: return frames.dirtyCount;
            case 3: return frames.pinnedCount;
            case 4: return shadows.count;
            case 5: return shadows.evicted;
            case 6: return store.reads;
            case 7: return store.writes;
            case 8: return store.free;
            case 9: return now;
            case 10: return store.runs;
            case 11: return files.withError();
            default: return BAD;
        }
    }

    // ---- which numbers may be

    private static boolean isFile(int file) {
        return file >= 0 && file < FILES;
    }

    private static boolean isPage(int page) {
        return page >= 0 && page < PAGES;
    }

    /** Said without adding the two, which could wrap around. */
    private static boolean isStretch(int file, int at, int n) {
        return isFile(file) && at >= 0 && at <= SIZE_MOST - n;
    }

    private static int spotOf(int file, int page) {
        return file * PAGES + page;
    }

    /** How many pages have a byte of a file of this size. */
    private static int pagesIn(int size) {
        return (size + PAGE_BYTES - 1) / PAGE_BYTES;
    }

    // ---- bytes in and out

    /** Where the bytes of [at, end) that the page has end, when they are in hand; or NONE. */
    private int readPage(int file, int page, int at, int end) {
        int spot = spotOf(file, page);
        boolean wasOut = frames.frameOf(spot) == NONE;
        int f = touch(spot);
        if (f == NONE) {
            return NONE;
        }
        int base = page * PAGE_BYTES;
        int stop = Math.min(end, base + PAGE_BYTES);
        for (int i = Math.max(at, base); i < stop; i++) {
            inHand.put(i - at, frames.bytes.byteAt(f * PAGE_BYTES + i - base));
        }
        // The bytes come first: what comes ahead may take this very frame.
        if (wasOut) {
            bringAhead(file, page);
        }
        return stop;
    }

    private void bringAhead(int file, int first) {
        boolean goesOn = files.goOn[file] == first;
        int window = goesOn ? Math.min(WINDOW_MOST, 2 * files.windows[file]) : 1;
        files.windows[file] = window;
        int end = Math.min(first + window, pagesIn(files.sizes[file]));
        int behind = first + 1;
        for (int page = first + 1; page < end; page++) {
            int spot = spotOf(file, page);
            if (frames.frameOf(spot) == NONE && bringIn(spot) == NONE) {
                break;
            }
            behind = page + 1;
        }
        files.goOn[file] = behind;
    }

    /** Writes the first n bytes of toWrite to a place of a file. */
    private int putRow(int file, int at, int n) {
        store.begin();
        int end = at + n;
        int done = 0;
        for (int page = at / PAGE_BYTES; page * PAGE_BYTES < end; page++) {
            int f = touch(spotOf(file, page));
            if (f == NONE) {
                break;
            }
            int base = page * PAGE_BYTES;
            int stop = Math.min(end, base + PAGE_BYTES);
            for (int i = Math.max(at, base); i < stop; i++) {
                frames.bytes.put(f * PAGE_BYTES + i - base, toWrite.byteAt(i - at));
            }
            frames.soil(f, now);
            files.sizes[file] = Math.max(files.sizes[file], stop);
            done = stop - at;
        }
        if (done == 0) {
            return NO_FRAME;
        }
        writeSurplus();
        return done;
    }

    /** False when the page that the size cuts off can not be brought in. */
    private boolean cutLastPage(int file, int size) {
        int cut = size % PAGE_BYTES;
        int spot = spotOf(file, size / PAGE_BYTES);
        if (cut == 0 || frames.frameOf(spot) == NONE && blockOf[spot] == NONE) {
            return true;
        }
        int f = touch(spot);
        if (f == NONE) {
            return false;
        }
        frames.bytes.clear(f * PAGE_BYTES + cut, (f + 1) * PAGE_BYTES);
        frames.soil(f, now);
        return true;
    }

    /** Whether the page was in or had a block. */
    private boolean makeHole(int spot) {
        int f = frames.frameOf(spot);
        int block = blockOf[spot];
        frames.leave(f);
        shadows.forget(spot);
        store.giveBack(block);
        blockOf[spot] = NONE;
        return f != NONE || block != NONE;
    }

    // ---- touching, and frames taken back

    /** The frame of the page, or NONE when there is none for it. */
    private int touch(int spot) {
        int f = frames.frameOf(spot);
        if (f == NONE) {
            return bringIn(spot);
        }
        frames.seeAgain(f);
        return f;
    }

    /** The frame that the page, which is out, has got; or NONE. */
    private int bringIn(int spot) {
        int f = frames.leastFree();
        if (f == NONE) {
            frames.balance();
            f = lookAtInactive();
            f = f == NONE ? lookAtActive() : f;
            if (f == NONE) {
                return NONE;
            }
            evict(f);
        }
        if (blockOf[spot] == NONE) {
            frames.bytes.clear(f * PAGE_BYTES, (f + 1) * PAGE_BYTES);
        } else {
            store.load(blockOf[spot], frames.bytes, f);
        }
        // Asked only now: taking a frame changes what was evicted and what is active.
        boolean toActive = shadows.isRecent(spot, frames.active.count);
        shadows.forget(spot);
        frames.enter(f, spot, toActive);
        return f;
    }

    private int lookAtInactive() {
        for (int look = 0; look < 2 * frames.most; look++) {
            int f = frames.inactive.last();
            if (f == NONE) {
                return NONE;
            }
            if (frames.pinned[f]) {
                frames.toFront(f, false);
            } else if (frames.referenced[f]) {
                frames.referenced[f] = false;
                frames.toFront(f, true);
            } else if (frames.isDirty(f) && !flush(f)) {
                frames.toFront(f, false);
            } else {
                return f;
            }
        }
        return NONE;
    }

    private int lookAtActive() {
        for (int k = frames.active.count - 1; k >= 0; k--) {
            int f = frames.active.at(k);
            if (f != NONE && !frames.pinned[f] && (!frames.isDirty(f) || flush(f))) {
                return f;
            }
        }
        return NONE;
    }

    private void evict(int f) {
        int spot = frames.spotIn(f);
        frames.leave(f);
        shadows.add(spot);
    }

    // ---- what is dirty

    /** Whether the page, which is dirty, was written. */
    private boolean flush(int f) {
        int spot = frames.spotIn(f);
        if (spot == NONE || !giveBlock(spot)) {
            return false;
        }
        int file = spot / PAGES;
        int ofFile = files.sizes[file] - spot % PAGES * PAGE_BYTES;
        if (!store.save(blockOf[spot], frames.bytes, f, ofFile)) {
            files.setError(file, DEFECT);
            return false;
        }
        frames.clean(f);
        return true;
    }

    /** Whether the page has a block now. */
    private boolean giveBlock(int spot) {
        if (blockOf[spot] == NONE) {
            blockOf[spot] = store.leastFree();
        }
        if (blockOf[spot] == NONE) {
            files.setError(spot / PAGES, NO_ROOM);
            return false;
        }
        return true;
    }

    private void writeSurplus() {
        if (frames.dirtyCount <= frames.most / 2) {
            return;
        }
        int f = frames.oldestDirty(NONE);
        for (int i = 0; i < frames.most && f != NONE && frames.dirtyCount > frames.most / 4; i++) {
            long key = frames.ageKey(f);
            flush(f);
            f = frames.oldestDirty(key);
        }
    }

    private int writeAged() {
        int wrote = 0;
        int f = frames.oldestDirty(NONE);
        for (int i = 0; i < AGED_MOST && f != NONE && now - frames.since[f] >= AGE_DUE; i++) {
            long key = frames.ageKey(f);
            if (flush(f)) {
                wrote++;
            }
            f = frames.oldestDirty(key);
        }
        return wrote;
    }

    /** The least block above one that a dirty page has. */
    private int leastDirtyBlock(int above) {
        int least = NONE;
        for (int f = 0; f < frames.most; f++) {
            int block = dirtyBlockIn(f);
            if (block > above && (least == NONE || block < least)) {
                least = block;
            }
        }
        return least;
    }

    private int dirtyFrameAt(int block) {
        for (int f = 0; f < frames.most; f++) {
            if (dirtyBlockIn(f) == block) {
                return f;
            }
        }
        return NONE;
    }

    /** The block of the page in a frame, if it is dirty and has one. */
    private int dirtyBlockIn(int f) {
        int spot = frames.isDirty(f) ? frames.spotIn(f) : NONE;
        return spot == NONE ? NONE : blockOf[spot];
    }

    // ---- the tree of a file

    private boolean isMarked(int spot, int mark) {
        int f = frames.frameOf(spot);
        switch (mark) {
            case 0: return f != NONE;
            case 1: return frames.isDirty(f);
            case 2: return f != NONE && frames.referenced[f];
            case 3: return f != NONE && frames.pinned[f];
            default: return shadows.of(spot) != NONE;
        }
    }

    private boolean isEntry(int spot) {
        return frames.frameOf(spot) != NONE || shadows.of(spot) != NONE;
    }

    private int treeEntries(int file) {
        int entries = 0;
        for (int page = 0; page < PAGES; page++) {
            if (isEntry(spotOf(file, page))) {
                entries++;
            }
        }
        return entries;
    }

    private int treeHeight(int file) {
        for (int page = PAGES - 1; page >= 0; page--) {
            if (isEntry(spotOf(file, page))) {
                return page < 4 ? 1 : page < 16 ? 2 : page < 64 ? 3 : 4;
            }
        }
        return 0;
    }

    private int treeNodes(int file) {
        int height = treeHeight(file);
        int nodes = 0;
        for (int k = 1; k <= height; k++) {
            int latest = NONE;
            for (int page = 0; page < PAGES; page++) {
                int node = page >> (2 * k);
                if (node != latest && isEntry(spotOf(file, page))) {
                    latest = node;
                    nodes++;
                }
            }
        }
        return nodes;
    }

    /** Bytes, eight in a long: a room counts elements, however wide they are. */
    private static final class Words {
        private final long[] row;

        Words(int bytes) {
            row = new long[Math.max(0, bytes / LONG_BYTES)];
        }

        int byteAt(int i) {
            if (i < 0 || i / LONG_BYTES >= row.length) {
                return 0;
            }
            return (int) (row[i / LONG_BYTES] >>> (8 * (i % LONG_BYTES))) & 255;
        }

        /** Of v, the lowest eight bits. */
        void put(int i, int v) {
            if (i < 0 || i / LONG_BYTES >= row.length) {
                return;
            }
            int shift = 8 * (i % LONG_BYTES);
            long others = row[i / LONG_BYTES] & ~(255L << shift);
            row[i / LONG_BYTES] = others | (v & 255L) << shift;
        }

        void clear(int from, int to) {
            if (from < 0 || to > row.length * LONG_BYTES) {
                return;
            }
            for (int i = from; i < to; i++) {
                row[i / LONG_BYTES] &= ~(255L << (8 * (i % LONG_BYTES)));
            }
        }

        void copyPage(int page, Words source, int sourcePage) {
            int words = PAGE_BYTES / LONG_BYTES;
            int to = page * words;
            int from = sourcePage * words;
            if (to < 0 || from < 0 || to + words > row.length || from + words > source.row.length) {
                return;
            }
            for (int i = 0; i < words; i++) {
                row[to + i] = source.row[from + i];
            }
        }
    }

    /** The blocks, what was read and written of them, and the record of it. */
    private static final class Disk {
        private final Words bytes;
        private final boolean[] fails;
        private final boolean[] taken;
        private int free;
        private int reads = 0;
        private int writes = 0;
        private final int[] kinds = new int[RUNS_MOST];
        private final int[] firsts = new int[RUNS_MOST];
        private final int[] lengths = new int[RUNS_MOST];
        private int runs = 0;
        private boolean recordIsOld = true;

        Disk(int blocks) {
            bytes = new Words(blocks * PAGE_BYTES);
            fails = new boolean[Math.max(0, blocks)];
            taken = new boolean[Math.max(0, blocks)];
            free = taken.length;
        }

        /** A call begins: the record stays until this call reads or writes. */
        void begin() {
            recordIsOld = true;
        }

        boolean has(int block) {
            return block >= 0 && block < taken.length;
        }

        /** The least free block, taken now; or NONE. */
        int leastFree() {
            for (int block = 0; block < taken.length && free > 0; block++) {
                if (!taken[block]) {
                    taken[block] = true;
                    free--;
                    return block;
                }
            }
            return NONE;
        }

        void giveBack(int block) {
            if (has(block) && taken[block]) {
                taken[block] = false;
                free++;
            }
        }

        void load(int block, Words frames, int f) {
            if (has(block)) {
                frames.copyPage(f, bytes, block);
                reads++;
                note(READ, block);
            }
        }

        /** Whether the block took the frame's bytes, of which so many are the file's. */
        boolean save(int block, Words frames, int f, int ofFile) {
            if (!has(block) || fails[block]) {
                return false;
            }
            bytes.copyPage(block, frames, f);
            bytes.clear(block * PAGE_BYTES + Math.max(0, ofFile), (block + 1) * PAGE_BYTES);
            writes++;
            note(WRITE, block);
            return true;
        }

        private void note(int kind, int block) {
            if (recordIsOld) {
                runs = 0;
                recordIsOld = false;
            }
            int k = runs - 1;
            if (k >= 0 && kinds[k] == kind && firsts[k] + lengths[k] == block) {
                lengths[k]++;
            } else if (runs < RUNS_MOST) {
                kinds[runs] = kind;
                firsts[runs] = block;
                lengths[runs] = 1;
                runs++;
            }
        }
    }

    /** What each file has beside its pages. */
    private static final class Files {
        private final int[] sizes = new int[FILES];
        private final int[] windows = new int[FILES];
        private final int[] goOn = new int[FILES];
        private final int[] errors = new int[FILES];

        Files() {
            Arrays.fill(windows, 1);
        }

        /** All but the sizes as at first. */
        void reset() {
            Arrays.fill(windows, 1);
            Arrays.fill(goOn, 0);
            Arrays.fill(errors, 0);
        }

        /** The first error stays until it is told. */
        void setError(int file, int error) {
            if (file >= 0 && file < FILES && errors[file] == 0) {
                errors[file] = error;
            }
        }

        int withError() {
            int count = 0;
            for (int error : errors) {
                if (error != 0) {
                    count++;
                }
            }
            return count;
        }
    }

    /** The frames, the pages that are in them, and the two lists. */
    private static final class Frames {
        private final int most;
        private final Words bytes;
        private final int[] spots;
        /** NONE for a page that is not dirty. */
        private final int[] since;
        private final boolean[] referenced;
        private final boolean[] pinned;
        private final boolean[] onActive;
        private final int[] frameBySpot = new int[SPOTS];
        private final Order active;
        private final Order inactive;
        private int dirtyCount = 0;
        private int pinnedCount = 0;

        Frames(int count) {
            most = Math.max(0, count);
            bytes = new Words(most * PAGE_BYTES);
            spots = new int[most];
            since = new int[most];
            referenced = new boolean[most];
            pinned = new boolean[most];
            onActive = new boolean[most];
            active = new Order(most);
            inactive = new Order(most);
            Arrays.fill(spots, NONE);
            Arrays.fill(since, NONE);
            Arrays.fill(frameBySpot, NONE);
        }

        int frameOf(int spot) {
            return spot < 0 || spot >= SPOTS ? NONE : frameBySpot[spot];
        }

        int spotIn(int f) {
            return f < 0 || f >= most ? NONE : spots[f];
        }

        int leastFree() {
            for (int f = 0; f < most; f++) {
                if (spots[f] == NONE) {
                    return f;
                }
            }
            return NONE;
        }

        void enter(int f, int spot, boolean toActive) {
            if (f < 0 || f >= most || spot < 0 || spot >= SPOTS) {
                return;
            }
            spots[f] = spot;
            frameBySpot[spot] = f;
            onActive[f] = toActive;
            Order list = toActive ? active : inactive;
            list.addFront(f);
        }

        void leave(int f) {
            int spot = spotIn(f);
            if (spot == NONE) {
                return;
            }
            clean(f);
            setPinned(f, false);
            Order list = onActive[f] ? active : inactive;
            list.take(f);
            referenced[f] = false;
            onActive[f] = false;
            frameBySpot[spot] = NONE;
            spots[f] = NONE;
        }

        void toFront(int f, boolean toActive) {
            if (f < 0 || f >= most) {
                return;
            }
            Order from = onActive[f] ? active : inactive;
            Order to = toActive ? active : inactive;
            from.take(f);
            to.addFront(f);
            onActive[f] = toActive;
        }

        void seeAgain(int f) {
            if (f < 0 || f >= most) {
                return;
            }
            if (!referenced[f]) {
                referenced[f] = true;
            } else if (!onActive[f]) {
                referenced[f] = false;
                toFront(f, true);
            }
        }

        /** Each page on ACTIVE is spared once at most, so twice the frames are steps enough. */
        void balance() {
            for (int i = 0; i < 2 * most && active.count > inactive.count; i++) {
                int f = active.last();
                if (f == NONE) {
                    return;
                }
                toFront(f, referenced[f]);
                referenced[f] = false;
            }
        }

        int placeOf(int f) {
            if (f < 0 || f >= most) {
                return NONE;
            }
            return onActive[f] ? active.placeOf(f) : inactive.placeOf(f);
        }

        boolean isDirty(int f) {
            return f >= 0 && f < most && since[f] != NONE;
        }

        void soil(int f, int time) {
            if (f >= 0 && f < most && since[f] == NONE) {
                since[f] = time;
                dirtyCount++;
            }
        }

        void clean(int f) {
            if (isDirty(f)) {
                since[f] = NONE;
                dirtyCount--;
            }
        }

        void setPinned(int f, boolean on) {
            if (f >= 0 && f < most && pinned[f] != on) {
                pinned[f] = on;
                pinnedCount += on ? 1 : -1;
            }
        }

        /** Rises by since when, then by files, then by pages. */
        long ageKey(int f) {
            return isDirty(f) ? (long) since[f] * SPOTS + spots[f] : NONE;
        }

        /** The dirty page with the least key above one; or NONE. */
        int oldestDirty(long above) {
            int oldest = NONE;
            long least = 0;
            for (int f = 0; f < most && dirtyCount > 0; f++) {
                long key = ageKey(f);
                if (key > above && (oldest == NONE || key < least)) {
                    oldest = f;
                    least = key;
                }
            }
            return oldest;
        }
    }

    /** Frames in order, the front first. */
    private static final class Order {
        private final int[] row;
        private int count = 0;

        Order(int most) {
            row = new int[Math.max(0, most)];
        }

        int at(int k) {
            return k < 0 || k >= count ? NONE : row[k];
        }

        int last() {
            return at(count - 1);
        }

        int placeOf(int f) {
            for (int k = 0; k < count; k++) {
                if (row[k] == f) {
                    return k;
                }
            }
            return NONE;
        }

        void addFront(int f) {
            if (count < row.length) {
                System.arraycopy(row, 0, row, 1, count);
                row[0] = f;
                count++;
            }
        }

        void take(int f) {
            int k = placeOf(f);
            if (k != NONE) {
                System.arraycopy(row, k + 1, row, k, count - k - 1);
                count--;
            }
        }
    }

    /** The pages that went lately, the least shadow first, and how many went in all. */
    private static final class Shadows {
        private final int[] numberOf = new int[SPOTS];
        private final int[] row;
        private int count = 0;
        private int evicted = 0;

        Shadows(int most) {
            row = new int[Math.max(1, most)];
            Arrays.fill(numberOf, NONE);
        }

        int of(int spot) {
            return spot < 0 || spot >= SPOTS ? NONE : numberOf[spot];
        }

        /** Whether no more pages went since this one than are active. */
        boolean isRecent(int spot, int activeCount) {
            int number = of(spot);
            return number != NONE && evicted - number <= activeCount;
        }

        void add(int spot) {
            evicted++;
            if (spot < 0 || spot >= SPOTS) {
                return;
            }
            if (count == row.length) {
                forget(row[0]);
            }
            numberOf[spot] = evicted;
            row[count] = spot;
            count++;
        }

        void forget(int spot) {
            if (of(spot) == NONE) {
                return;
            }
            numberOf[spot] = NONE;
            for (int k = 0; k < count; k++) {
                if (row[k] == spot) {
                    System.arraycopy(row, k + 1, row, k, count - k - 1);
                    count--;
                    return;
                }
            }
        }

        void forgetAll() {
            Arrays.fill(numberOf, NONE);
            count = 0;
        }
    }
}
