import java.util.ArrayList;
import java.util.Comparator;
import java.util.LinkedList;
import java.util.List;
import java.util.TreeMap;
import java.util.TreeSet;

/**
 * The document told a second time, with the library's collections and a page object each, and
 * without regard to speed or room: what PageHold answers is held against it.
 */
final class Model {
    static final int NONE = -1, BAD = -2, NO_FRAME = -3, NO_ROOM = -4, DEFECT = -5;

    static final class Page {
        final int file, number;
        Integer block, since;
        int frame = NONE;
        byte[] bytes;
        boolean referenced, pinned;

        Page(int file, int number) {
            this.file = file;
            this.number = number;
        }

        boolean in() {
            return frame != NONE;
        }

        boolean dirty() {
            return since != null;
        }
    }

    /** Thrown where the document says that the call ends. */
    static final class NoFrame extends Exception {
        private static final long serialVersionUID = 1;
    }

    final int frames, blocks;
    final Page[][] pages = new Page[12][256];
    final int[] size = new int[12], window = new int[12], goOn = new int[12], error = new int[12];
    final byte[][] disk;
    final boolean[] fails;
    final TreeSet<Integer> freeFrames = new TreeSet<>(), freeBlocks = new TreeSet<>();
    final LinkedList<Page> active = new LinkedList<>(), inactive = new LinkedList<>();
    final TreeMap<Integer, Page> shadows = new TreeMap<>();
    int evicted, reads, writes, time;
    List<int[]> record = new ArrayList<>();
    List<int[]> ofThisCall = new ArrayList<>();
    List<Byte> hand = new ArrayList<>();

    Model(int frames, int blocks) {
        this.frames = frames >= 4 && frames <= 64 ? frames : 16;
        this.blocks = blocks >= 8 && blocks <= 512 ? blocks : 128;
        disk = new byte[this.blocks][64];
        fails = new boolean[this.blocks];
        for (int f = 0; f < 12; f++) {
            window[f] = 1;
            for (int p = 0; p < 256; p++) pages[f][p] = new Page(f, p);
        }
        for (int i = 0; i < this.frames; i++) freeFrames.add(i);
        for (int i = 0; i < this.blocks; i++) freeBlocks.add(i);
    }

    private void begin() {
        ofThisCall = new ArrayList<>();
    }

    private void note(int kind, int block) {
        ofThisCall.add(new int[] {kind, block});
        record = ofThisCall;
    }

    private List<int[]> runs() {
        List<int[]> runs = new ArrayList<>();
        for (int[] one : record) {
            int[] last = runs.isEmpty() ? null : runs.get(runs.size() - 1);
            if (last != null && last[0] == one[0] && last[1] + last[2] == one[1]) last[2]++;
            else runs.add(new int[] {one[0], one[1], 1});
        }
        return runs;
    }

    private Integer shadowOf(Page p) {
        for (var e : shadows.entrySet()) if (e.getValue() == p) return e.getKey();
        return null;
    }

    private void out(Page p) {
        if (!p.in()) return;
        freeFrames.add(p.frame);
        p.frame = NONE;
        p.bytes = null;
        p.since = null;
        p.referenced = false;
        p.pinned = false;
        active.remove(p);
        inactive.remove(p);
    }

    private void evict(Page p) {
        out(p);
        evicted++;
        shadows.put(evicted, p);
        if (shadows.size() > frames) shadows.pollFirstEntry();
    }

    private boolean written(Page p) {
        if (p.block == null) p.block = freeBlocks.pollFirst();
        if (p.block == null) {
            if (error[p.file] == 0) error[p.file] = NO_ROOM;
            return false;
        }
        if (fails[p.block]) {
            if (error[p.file] == 0) error[p.file] = DEFECT;
            return false;
        }
        for (int i = 0; i < 64; i++) {
            disk[p.block][i] = p.number * 64 + i < size[p.file] ? p.bytes[i] : 0;
        }
        writes++;
        note(1, p.block);
        p.since = null;
        return true;
    }

    private void takeBack() throws NoFrame {
        while (active.size() > inactive.size()) {
            Page p = active.removeLast();
            if (p.referenced) {
                p.referenced = false;
                active.addFirst(p);
            } else {
                inactive.addFirst(p);
            }
        }
        int looks = 0;
        while (!inactive.isEmpty() && looks++ < 2 * frames) {
            Page p = inactive.removeLast();
            if (p.pinned) {
                inactive.addFirst(p);
                continue;
            }
            if (p.referenced) {
                active.addFirst(p);
                p.referenced = false;
                continue;
            }
            if (p.dirty() && !written(p)) {
                inactive.addFirst(p);
                continue;
            }
            evict(p);
            return;
        }
        for (var back = active.descendingIterator(); back.hasNext(); ) {
            Page p = back.next();
            if (p.pinned) continue;
            if (p.dirty() && !written(p)) continue;
            evict(p);
            return;
        }
        throw new NoFrame();
    }

    private void bringIn(Page p) throws NoFrame {
        if (freeFrames.isEmpty()) takeBack();
        p.frame = freeFrames.pollFirst();
        p.bytes = new byte[64];
        if (p.block != null) {
            p.bytes = disk[p.block].clone();
            reads++;
            note(0, p.block);
        }
        Integer shadow = shadowOf(p);
        if (shadow != null && evicted - shadow <= active.size()) active.addFirst(p);
        else inactive.addFirst(p);
        if (shadow != null) shadows.remove(shadow);
    }

    private void touch(Page p) throws NoFrame {
        if (!p.in()) {
            bringIn(p);
        } else if (!p.referenced) {
            p.referenced = true;
        } else if (inactive.remove(p)) {
            active.addFirst(p);
            p.referenced = false;
        }
    }

    private void ahead(Page p) {
        if (goOn[p.file] == p.number) window[p.file] = Math.min(8, window[p.file] * 2);
        else window[p.file] = 1;
        goOn[p.file] = p.number + 1;
        try {
            for (int i = 1; i < window[p.file]; i++) {
                int q = p.number + i;
                if (q * 64 >= size[p.file]) break;
                if (!pages[p.file][q].in()) bringIn(pages[p.file][q]);
                goOn[p.file] = q + 1;
            }
        } catch (NoFrame none) {
            return;
        }
    }

    private static boolean file(int f) {
        return f >= 0 && f <= 11;
    }

    int read(int f, int at, int n) {
        begin();
        if (!file(f) || at < 0 || n < 1 || n > 1024) return BAD;
        List<Byte> got = new ArrayList<>();
        long end = Math.min((long) at + n, size[f]);
        long i = at;
        while (i < end) {
            Page p = pages[f][(int) i / 64];
            boolean was = p.in();
            try {
                touch(p);
            } catch (NoFrame none) {
                if (i == at) return NO_FRAME;
                break;
            }
            do got.add(p.bytes[(int) i % 64]); while (++i % 64 != 0 && i < end);
            if (!was) ahead(p);
        }
        hand = got;
        return got.size();
    }

    int hand(int i) {
        return i < 0 || i >= hand.size() ? NONE : hand.get(i) & 255;
    }

    int write(int f, int at, long row, int n) {
        begin();
        if (n < 1 || n > 8) return BAD;
        byte[] bytes = new byte[n];
        for (int i = 0; i < n; i++) bytes[i] = (byte) (row >> 8 * i);
        return put(f, at, bytes);
    }

    int fill(int f, int at, int n, int v) {
        begin();
        if (n < 1 || n > 1024) return BAD;
        byte[] bytes = new byte[n];
        for (int i = 0; i < n; i++) bytes[i] = (byte) (v + 3 * i);
        return put(f, at, bytes);
    }

    private int put(int f, int at, byte[] bytes) {
        if (!file(f) || at < 0 || (long) at + bytes.length > 16384) return BAD;
        int done = 0;
        while (done < bytes.length) {
            Page p = pages[f][(at + done) / 64];
            try {
                touch(p);
            } catch (NoFrame none) {
                if (done == 0) return NO_FRAME;
                break;
            }
            do p.bytes[(at + done) % 64] = bytes[done]; while (++done < bytes.length && (at + done) % 64 != 0);
            if (!p.dirty()) p.since = time;
            size[f] = Math.max(size[f], at + done);
        }
        if (dirty().size() > frames / 2) {
            for (Page p : dirty()) if (dirty().size() > frames / 4) written(p);
        }
        return done;
    }

    /** The oldest first. */
    private List<Page> dirty() {
        List<Page> dirty = new ArrayList<>();
        for (Page[] row : pages) for (Page p : row) if (p.dirty()) dirty.add(p);
        dirty.sort(Comparator.comparing((Page p) -> p.since));
        return dirty;
    }

    private boolean hole(Page p) {
        boolean was = p.in() || p.block != null;
        out(p);
        shadows.values().remove(p);
        if (p.block != null) freeBlocks.add(p.block);
        p.block = null;
        return was;
    }

    int truncate(int f, int to) {
        begin();
        if (!file(f) || to < 0 || to > 16384) return BAD;
        int had = size[f];
        size[f] = to;
        if (to >= had) return had;
        for (Page p : pages[f]) if (p.number * 64 >= to) hole(p);
        if (to % 64 == 0) return had;
        Page last = pages[f][to / 64];
        if (!last.in() && last.block == null) return had;
        try {
            touch(last);
        } catch (NoFrame none) {
            return NO_FRAME;
        }
        for (int i = to % 64; i < 64; i++) last.bytes[i] = 0;
        if (!last.dirty()) last.since = time;
        return had;
    }

    int punch(int f, int page, int n) {
        begin();
        if (!file(f) || page < 0 || page > 255 || n < 1 || n > 256) return BAD;
        int holes = 0;
        for (int i = 0; i < n && page + i <= 255; i++) if (hole(pages[f][page + i])) holes++;
        return holes;
    }

    int sync(int f) {
        begin();
        if (!file(f)) return BAD;
        int n = 0;
        for (Page p : pages[f]) if (p.dirty() && written(p)) n++;
        int e = error[f];
        error[f] = 0;
        return e != 0 ? e : n;
    }

    int syncAll() {
        begin();
        TreeMap<Integer, Page> byBlock = new TreeMap<>();
        for (Page[] row : pages) {
            for (Page p : row) {
                if (!p.dirty()) continue;
                if (p.block == null) p.block = freeBlocks.pollFirst();
                if (p.block != null) byBlock.put(p.block, p);
                else if (error[p.file] == 0) error[p.file] = NO_ROOM;
            }
        }
        int n = 0;
        for (Page p : byBlock.values()) if (written(p)) n++;
        return n;
    }

    int tick(int seconds) {
        begin();
        if (seconds < 0 || seconds > 1000) return BAD;
        int n = 0;
        for (int s = 0; s < seconds; s++) {
            time++;
            int tries = 0;
            for (Page p : dirty()) {
                if (time - p.since < 5 || tries == 4) break;
                tries++;
                if (written(p)) n++;
            }
        }
        return n;
    }

    int drop() {
        begin();
        int n = 0;
        for (Page[] row : pages) {
            for (Page p : row) {
                if (!p.in() || p.dirty() || p.pinned) continue;
                evict(p);
                n++;
            }
        }
        return n;
    }

    int crash() {
        begin();
        int lost = dirty().size();
        for (Page[] row : pages) for (Page p : row) out(p);
        shadows.clear();
        hand = new ArrayList<>();
        for (int f = 0; f < 12; f++) {
            window[f] = 1;
            goOn[f] = 0;
            error[f] = 0;
        }
        return lost;
    }

    boolean fail(int block, boolean to) {
        begin();
        if (block < 0 || block >= blocks) return false;
        boolean other = fails[block] != to;
        fails[block] = to;
        return other;
    }

    private int pinned() {
        int n = 0;
        for (Page[] row : pages) for (Page p : row) if (p.pinned) n++;
        return n;
    }

    boolean pin(int f, int page, boolean to) {
        begin();
        if (!file(f) || page < 0 || page > 255) return false;
        Page p = pages[f][page];
        boolean was = p.pinned;
        if (!to) {
            p.pinned = false;
            return was;
        }
        if (page * 64 >= size[f]) return false;
        if (!was && pinned() >= frames / 2) return false;
        try {
            touch(p);
        } catch (NoFrame none) {
            return false;
        }
        p.pinned = true;
        return was;
    }

    int size(int f) {
        return file(f) ? size[f] : BAD;
    }

    private static int orNone(Integer i) {
        return i == null ? NONE : i;
    }

    int page(int f, int page, int what) {
        if (!file(f) || page < 0 || page > 255) return BAD;
        Page p = pages[f][page];
        return switch (what) {
            case 0 -> p.frame;
            case 1 -> orNone(p.block);
            case 2 -> orNone(p.since);
            case 3 -> orNone(shadowOf(p));
            case 4 -> Math.max(active.indexOf(p), inactive.indexOf(p));
            case 5 -> p.referenced ? 1 : 0;
            case 6 -> p.pinned ? 1 : 0;
            case 7 -> active.contains(p) ? 1 : 0;
            default -> BAD;
        };
    }

    int next(int f, int page, int mark) {
        if (!file(f) || page < 0 || page > 255 || mark < 0 || mark > 4) return BAD;
        for (int i = page; i < 256; i++) {
            Page p = pages[f][i];
            boolean[] has = {p.in(), p.dirty(), p.referenced, p.pinned, shadows.containsValue(p)};
            if (has[mark]) return i;
        }
        return NONE;
    }

    int tree(int f, int what) {
        if (!file(f) || what < 0 || what > 5) return BAD;
        if (what >= 3) return what == 3 ? window[f] : what == 4 ? goOn[f] : error[f];
        TreeSet<Integer> entries = new TreeSet<>();
        for (Page p : pages[f]) if (p.in() || shadows.containsValue(p)) entries.add(p.number);
        if (what == 2) return entries.size();
        int height = 0;
        int reach = 1;
        while (!entries.isEmpty() && (height == 0 || reach <= entries.last())) {
            height++;
            reach *= 4;
        }
        if (what == 0) return height;
        int nodes = 0;
        int span = 1;
        for (int k = 1; k <= height; k++) {
            span *= 4;
            TreeSet<Integer> different = new TreeSet<>();
            for (int p : entries) different.add(p / span);
            nodes += different.size();
        }
        return nodes;
    }

    int listed(boolean ofActive, int k) {
        List<Page> list = ofActive ? active : inactive;
        return k < 0 || k >= list.size() ? NONE : 256 * list.get(k).file + list.get(k).number;
    }

    int disk(int block, int i) {
        return block < 0 || block >= blocks || i < 0 || i > 63 ? BAD : disk[block][i] & 255;
    }

    int run(int k, int what) {
        if (what < 0 || what > 2) return BAD;
        List<int[]> runs = runs();
        return k < 0 || k >= runs.size() ? NONE : runs.get(k)[what];
    }

    int told(int what) {
        int errors = 0;
        for (int e : error) if (e != 0) errors++;
        return switch (what) {
            case 0 -> active.size() + inactive.size();
            case 1 -> active.size();
            case 2 -> dirty().size();
            case 3 -> pinned();
            case 4 -> shadows.size();
            case 5 -> evicted;
            case 6 -> reads;
            case 7 -> writes;
            case 8 -> freeBlocks.size();
            case 9 -> time;
            case 10 -> runs().size();
            case 11 -> errors;
            default -> BAD;
        };
    }
}
