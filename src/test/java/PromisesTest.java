/** Each promise of the document with calls worked out by hand: plain ones, edges, wrong ones. */
public final class PromisesTest {
    private static int wrong = 0;
    private static int asked = 0;

    public static void main(String[] args) {
        newObject();
        read();
        readAhead();
        touching();
        shadowsAndReturn();
        takingBack();
        noFrame();
        write();
        fill();
        surplus();
        truncate();
        punch();
        sync();
        syncAll();
        tick();
        drop();
        crash();
        fail();
        pin();
        size();
        page();
        next();
        tree();
        listed();
        disk();
        record();
        told();
        System.out.println(asked + " answers, " + wrong + " not as due");
        if (wrong != 0) System.exit(1);
    }

    private static void due(String what, long got, long want) {
        asked++;
        if (got != want) {
            wrong++;
            System.out.println(what + ": answered " + got + ", due is " + want);
        }
    }

    private static void due(String what, boolean got, boolean want) {
        due(what, got ? 1 : 0, want ? 1 : 0);
    }

    /** The list from its front, pages of file 0 by their numbers. */
    private static void dueList(String what, PageHold x, boolean active, int... spots) {
        for (int k = 0; k < spots.length; k++) due(what + " place " + k, x.listed(active, k), spots[k]);
        due(what + " ends", x.listed(active, spots.length), PageHold.NONE);
    }

    /** Three numbers a run: kind, first block, how many. */
    private static void dueRecord(String what, PageHold x, int... runs) {
        due(what + " runs", x.told(10), runs.length / 3);
        for (int i = 0; i < runs.length; i++) due(what + " run " + i / 3 + " " + i % 3, x.run(i / 3, i % 3), runs[i]);
    }

    /** Four frames, dirty all, that no block takes: file 0 has 256 bytes, file 1 a page with block 0 that is out. */
    private static PageHold stuck() {
        PageHold x = new PageHold(4, 8);
        x.fill(1, 0, 64, 200);
        x.sync(1);
        x.drop();
        for (int b = 0; b < 8; b++) x.fail(b, true);
        x.fill(0, 0, 256, 7);
        return x;
    }

    private static void newObject() {
        int[][] made = {{4, 8, 4, 8}, {64, 512, 64, 512}, {3, 7, 16, 128}, {65, 513, 16, 128},
            {-1, Integer.MIN_VALUE, 16, 128}, {Integer.MAX_VALUE, 100, 16, 100}, {5, 0, 5, 128}};
        for (int[] m : made) {
            PageHold x = new PageHold(m[0], m[1]);
            String name = "new " + m[0] + " " + m[1];
            for (int w = 0; w < 12; w++) due(name + " told " + w, x.told(w), w == 8 ? m[3] : 0);
            due(name + " last block", x.disk(m[3] - 1, 63), 0);
            due(name + " no block", x.disk(m[3], 0), PageHold.BAD);
            x.truncate(0, 16384);
            for (int p = 0; p < 66; p++) x.read(0, 64 * p, 1);
            due(name + " frames", x.told(0), m[2]);
        }
        due("DEFECT", PageHold.DEFECT, -5);
        due("NO_ROOM", PageHold.NO_ROOM, -4);
    }

    private static void read() {
        PageHold x = new PageHold(8, 16);
        due("read of nothing", x.read(0, 0, 1), 0);
        x.fill(0, 0, 100, 1);
        int reads = x.told(6);
        due("read file -1", x.read(-1, 0, 1), PageHold.BAD);
        due("read file 12", x.read(12, 0, 1), PageHold.BAD);
        due("read at -1", x.read(0, -1, 1), PageHold.BAD);
        due("read n 0", x.read(0, 0, 0), PageHold.BAD);
        due("read n 1025", x.read(0, 0, 1025), PageHold.BAD);
        due("read n 1024", x.read(0, 0, 1024), 100);
        due("hand 0", x.hand(0), 1);
        due("hand 99", x.hand(99), (1 + 3 * 99) & 255);
        due("hand 100", x.hand(100), PageHold.NONE);
        due("hand -1", x.hand(-1), PageHold.NONE);
        due("read BAD keeps hand", x.read(0, -5, 1), PageHold.BAD);
        due("hand stays", x.hand(99), (1 + 3 * 99) & 255);
        due("read in the middle", x.read(0, 63, 2), 2);
        due("hand over the edge", x.hand(1), (1 + 3 * 64) & 255);
        due("no others in hand", x.hand(2), PageHold.NONE);
        due("read at size", x.read(0, 100, 5), 0);
        due("hand empty", x.hand(0), PageHold.NONE);
        due("read far behind", x.read(0, Integer.MAX_VALUE, 1024), 0);
        due("nothing was read of the disk", x.told(6), reads);
        due("a hole reads 0", x.truncate(2, 10), 0);
        due("read hole", x.read(2, 0, 64), 10);
        due("hand hole", x.hand(9), 0);
        due("no READ of a hole", x.told(6), reads);
    }

    private static void readAhead() {
        PageHold x = new PageHold(32, 64);
        x.truncate(0, 64 * 40);
        due("window at first", x.tree(0, 3), 1);
        due("next at first", x.tree(0, 4), 0);
        x.read(0, 0, 1);
        due("window 2", x.tree(0, 3), 2);
        due("in 2", x.told(0), 2);
        due("next 2", x.tree(0, 4), 2);
        x.read(0, 64, 1);
        due("one that is in changes nothing", x.tree(0, 4), 2);
        x.read(0, 128, 1);
        due("window 4", x.tree(0, 3), 4);
        due("next 6", x.tree(0, 4), 6);
        x.read(0, 64 * 6, 1);
        due("window 8", x.tree(0, 3), 8);
        due("next 14", x.tree(0, 4), 14);
        x.read(0, 64 * 14, 1);
        due("window stays 8", x.tree(0, 3), 8);
        due("next 22", x.tree(0, 4), 22);
        x.read(0, 64 * 23, 1);
        due("another page makes it 1", x.tree(0, 3), 1);
        due("next behind it", x.tree(0, 4), 24);
        x.read(0, 64 * 24, 1);
        due("window 2 again", x.tree(0, 3), 2);
        due("ahead is not referenced", x.page(0, 25, 5), 0);
        due("other files have their own", x.tree(1, 3), 1);

        PageHold y = new PageHold(8, 8);
        y.truncate(3, 64 * 2 + 1);
        y.read(3, 0, 64);
        y.read(3, 128, 1);
        due("window counts beyond the file", y.tree(3, 3), 4);
        due("but no page is there", y.told(0), 3);
        due("next behind the first one", y.tree(3, 4), 3);

        PageHold z = new PageHold(16, 16);
        z.truncate(0, 64 * 12);
        due("one read over pages", z.read(0, 0, 64 * 4), 256);
        due("its window", z.tree(0, 3), 4);
        due("its next", z.tree(0, 4), 6);
        due("page 1 came ahead and was seen again", z.page(0, 1, 5), 1);
        due("page 2 was brought in by itself", z.page(0, 2, 5), 0);
        due("page 5 came ahead", z.page(0, 5, 0), 5);

        PageHold w = new PageHold(8, 16);
        w.truncate(0, 64 * 12);
        w.pin(0, 1, true);
        w.read(0, 0, 1);
        due("a page that is in is gone through", w.tree(0, 4), 2);
        due("and not touched", w.page(0, 1, 5), 0);

        PageHold v = new PageHold(4, 8);
        v.fill(0, 0, 512, 0);
        v.syncAll();
        v.drop();
        v.read(0, 0, 64);
        v.read(0, 128, 64);
        due("window 8 with four frames", v.read(0, 64 * 6, 128), 128);
        due("hand before it goes", v.hand(64), (3 * 64 * 7) & 255);
        PageHold u = new PageHold(4, 16);
        u.truncate(0, 64 * 30);
        for (int p = 0; p < 6; p += 2) u.read(0, 64 * p, 1);
        u.read(0, 64 * 6, 1);
        due("the first one went for what came ahead", u.page(0, 6, 0), PageHold.NONE);
        due("next all the same", u.tree(0, 4), 14);
    }

    private static void touching() {
        PageHold x = new PageHold(4, 8);
        x.truncate(0, 64 * 4);
        x.pin(0, 0, true);
        x.pin(0, 1, true);
        dueList("two brought in", x, false, 1, 0);
        due("not referenced", x.page(0, 0, 5), 0);
        x.read(0, 0, 1);
        due("seen again", x.page(0, 0, 5), 1);
        dueList("stays inactive", x, false, 1, 0);
        x.read(0, 0, 1);
        due("twice seen: not referenced", x.page(0, 0, 5), 0);
        dueList("active now", x, true, 0);
        x.read(0, 0, 1);
        x.read(0, 0, 1);
        due("active and referenced stays so", x.page(0, 0, 5), 1);
        x.read(0, 64, 1);
        x.write(0, 64, 1, 1);
        dueList("to the front of active", x, true, 1, 0);
        x.read(0, 0, 1);
        dueList("active ones do not move", x, true, 1, 0);
        due("least free frame", x.page(0, 0, 0), 0);
        x.punch(0, 0, 1);
        x.pin(0, 3, true);
        due("least free frame again", x.page(0, 3, 0), 0);
    }

    private static void shadowsAndReturn() {
        PageHold x = new PageHold(4, 8);
        x.truncate(0, 64 * 20);
        for (int p = 1; p < 20; p += 2) x.read(0, 64 * p, 1);
        due("evicted", x.told(5), 6);
        due("shadows as many as frames", x.told(4), 4);
        due("least went", x.page(0, 3, 3), PageHold.NONE);
        due("least there is", x.page(0, 5, 3), 3);
        due("greatest", x.page(0, 11, 3), 6);
        x.read(0, 64 * 11, 1);
        due("none active: inactive", x.page(0, 11, 7), 0);
        due("its shadow goes", x.page(0, 11, 3), PageHold.NONE);
        dueList("fifo", x, false, 11, 19, 17, 15);

        PageHold y = new PageHold(4, 8);
        y.truncate(0, 64 * 20);
        y.read(0, 64 * 1, 1);
        y.read(0, 64 * 1, 1);
        y.read(0, 64 * 1, 1);
        y.read(0, 64 * 3, 1);
        y.read(0, 64 * 3, 1);
        y.read(0, 64 * 3, 1);
        y.read(0, 64 * 5, 1);
        y.read(0, 64 * 7, 1);
        dueList("two active", y, true, 3, 1);
        y.read(0, 64 * 9, 1);
        due("5 went first", y.page(0, 5, 3), 1);
        y.read(0, 64 * 5, 1);
        due("one went since, two active: active", y.page(0, 5, 7), 1);
        dueList("at the front", y, true, 5, 3, 1);
        due("7 went second", y.page(0, 7, 3), 2);
        y.read(0, 64 * 11, 1);
        dueList("last of active to inactive, then 9 went", y, true, 5, 3);
        dueList("inactive", y, false, 11, 1);
        y.read(0, 64 * 13, 1);
        due("1 went fourth", y.page(0, 1, 3), 4);
        y.read(0, 64 * 7, 1);
        due("three went since, two active: inactive", y.page(0, 7, 7), 0);
        due("9 went third, 1 fourth", y.page(0, 9, 3), 3);
        due("11 went fifth", y.page(0, 11, 3), 5);
        y.read(0, 64 * 1, 1);
        due("13 went for it, two since, two active: active", y.page(0, 1, 7), 1);
        due("evicted", y.told(5), 6);
    }

    private static void takingBack() {
        PageHold x = new PageHold(4, 8);
        x.truncate(0, 64 * 20);
        for (int p = 1; p < 8; p += 2) for (int i = 0; i < 3; i++) x.read(0, 64 * p, 1);
        dueList("all active", x, true, 7, 5, 3, 1);
        x.read(0, 64, 1);
        due("1 is referenced", x.page(0, 1, 5), 1);
        x.read(0, 64 * 9, 1);
        dueList("1 spared, 3 and 5 to inactive, 3 went", x, true, 1, 7);
        dueList("inactive", x, false, 9, 5);
        due("1 not referenced any more", x.page(0, 1, 5), 0);
        due("frame of 3 taken", x.page(0, 9, 0), 1);
        x.read(0, 64 * 5, 1);
        x.read(0, 64 * 11, 1);
        dueList("5 was referenced: to active", x, true, 5, 1, 7);
        dueList("9 went", x, false, 11);
        due("5 not referenced", x.page(0, 5, 5), 0);

        PageHold p = new PageHold(4, 8);
        p.truncate(0, 64 * 20);
        for (int i = 1; i < 8; i += 2) p.read(0, 64 * i, 1);
        p.pin(0, 1, true);
        due("pinning touches", p.page(0, 1, 5), 1);
        p.read(0, 64 * 9, 1);
        dueList("pinned to the front of inactive, 3 went", p, false, 9, 1, 7, 5);
        due("pinned stays referenced", p.page(0, 1, 5), 1);

        PageHold d = new PageHold(4, 8);
        d.truncate(0, 64 * 20);
        d.fail(0, true);
        d.fill(0, 64, 64, 9);
        for (int i = 3; i < 8; i += 2) d.read(0, 64 * i, 1);
        d.read(0, 64 * 9, 1);
        dueList("dirty one that fails to the front", d, false, 9, 1, 7, 5);
        due("it has the block", d.page(0, 1, 1), 0);
        due("error", d.tree(0, 5), PageHold.DEFECT);
        due("no write", d.told(7), 0);
        d.fail(0, false);
        for (int i = 11; i < 16; i += 2) d.read(0, 64 * i, 1);
        due("written when it went", d.told(7), 1);
        due("is out", d.page(0, 1, 0), PageHold.NONE);
        dueRecord("record", d, 1, 0, 1);
        due("on disk", d.disk(0, 1), 12);

        PageHold a = new PageHold(4, 8);
        a.truncate(0, 64 * 20);
        for (int b = 0; b < 8; b++) a.fail(b, true);
        a.write(0, 64 * 1, 1, 1);
        a.write(0, 64 * 3, 1, 1);
        a.read(0, 64 * 5, 1);
        a.read(0, 64 * 7, 1);
        for (int i = 0; i < 2; i++) a.read(0, 64 * 5, 1);
        for (int i = 0; i < 3; i++) a.read(0, 64 * 7, 1);
        dueList("two active", a, true, 7, 5);
        a.read(0, 64 * 9, 1);
        due("no inactive can go: 5 from active", a.page(0, 5, 0), PageHold.NONE);
        dueList("none moves", a, true, 7);
        due("7 is referenced still", a.page(0, 7, 5), 1);
        dueList("inactive after eight looks", a, false, 9, 3, 1);
    }

    private static void noFrame() {
        PageHold x = stuck();
        due("error of the surplus", x.tree(0, 5), PageHold.DEFECT);
        due("all dirty", x.told(2), 4);
        due("read in", x.read(0, 0, 3), 3);
        due("read no frame", x.read(1, 0, 8), PageHold.NO_FRAME);
        due("hand stays", x.hand(2), 13);
        due("no more in hand", x.hand(3), PageHold.NONE);
        x.truncate(0, 640);
        due("read at a later one", x.read(0, 190, 100), 66);
        due("hand of that", x.hand(65), (7 + 3 * 255) & 255);
        due("hand ends", x.hand(66), PageHold.NONE);
        due("write no frame", x.write(1, 0, 5, 1), PageHold.NO_FRAME);
        due("fill no frame", x.fill(2, 0, 500, 1), PageHold.NO_FRAME);
        due("size stays", x.size(2), 0);
        x.truncate(0, 256);
        due("write at a later one", x.write(0, 252, -1L, 8), 4);
        due("size so far", x.size(0), 256);
        due("fill at a later one", x.fill(0, 200, 1000, 1), 56);
        due("no shadow", x.told(4), 1);
        due("pin no frame", x.pin(1, 0, true), false);
        due("not pinned", x.told(3), 0);
        due("truncate no frame", x.truncate(1, 10), PageHold.NO_FRAME);
        due("all else is done", x.size(1), 10);
        due("no page of it in", x.page(1, 0, 0), PageHold.NONE);
        due("its block is left as it was", x.disk(0, 63), (200 + 3 * 63) & 255);
        due("evicted by drop alone", x.told(5), 1);
        x.fail(1, false);
        due("a frame by writing", x.read(1, 0, 64), 10);
        due("hand", x.hand(9), (200 + 27) & 255);
        dueRecord("write, then read", x, 1, 1, 1, 0, 0, 1);
        due("bytes are those of the block", x.truncate(1, 64), 10);
        x.read(1, 0, 64);
        due("not cut off in it", x.hand(63), (200 + 3 * 63) & 255);
    }

    private static void write() {
        PageHold x = new PageHold(8, 16);
        due("write file -1", x.write(-1, 0, 0, 1), PageHold.BAD);
        due("write file 12", x.write(12, 0, 0, 1), PageHold.BAD);
        due("write n 0", x.write(0, 0, 0, 0), PageHold.BAD);
        due("write n 9", x.write(0, 0, 0, 9), PageHold.BAD);
        due("write at -1", x.write(0, -1, 0, 1), PageHold.BAD);
        due("write behind all", x.write(0, 16377, 0, 8), PageHold.BAD);
        due("write far", x.write(0, Integer.MAX_VALUE, 0, 8), PageHold.BAD);
        due("nothing in", x.told(0), 0);
        due("write the last", x.write(0, 16376, 0, 8), 8);
        due("size", x.size(0), 16384);
        due("write over the edge", x.write(1, 60, 0x8877665544332211L, 8), 8);
        due("size 1", x.size(1), 68);
        x.read(1, 58, 20);
        int[] want = {0, 0, 0x11, 0x22, 0x33, 0x44, 0x55, 0x66, 0x77, 0x88, PageHold.NONE};
        for (int i = 0; i < want.length; i++) due("byte " + i, x.hand(i), want[i]);
        due("write three", x.write(1, 1, -1L, 3), 3);
        due("size not smaller", x.size(1), 68);
        x.read(1, 0, 5);
        due("before", x.hand(0), 0);
        due("lowest", x.hand(3), 255);
        due("behind", x.hand(4), 0);
        due("nothing comes ahead", x.tree(1, 4), 0);
        x.sync(1);
        due("clean", x.page(1, 0, 2), PageHold.NONE);
        x.tick(3);
        x.write(1, 1, 255, 1);
        due("dirty with what it had", x.page(1, 0, 2), 3);
        x.tick(1);
        x.write(1, 2, 7, 1);
        due("since then still", x.page(1, 0, 2), 3);
    }

    private static void fill() {
        PageHold x = new PageHold(64, 512);
        due("fill file 12", x.fill(12, 0, 1, 0), PageHold.BAD);
        due("fill n 0", x.fill(0, 0, 0, 0), PageHold.BAD);
        due("fill n 1025", x.fill(0, 0, 1025, 0), PageHold.BAD);
        due("fill at -1", x.fill(0, -1, 1, 0), PageHold.BAD);
        due("fill behind all", x.fill(0, 15361, 1024, 0), PageHold.BAD);
        due("fill the last", x.fill(0, 15360, 1024, 0), 1024);
        due("fill seventeen pages", x.fill(1, 40, 1024, -1), 1024);
        due("pages of it", x.tree(1, 2), 17);
        due("size", x.size(1), 1064);
        due("read", x.read(1, 40, 1024), 1024);
        for (int i = 0; i < 1024; i += 31) due("byte " + i, x.hand(i), (-1 + 3 * i) & 255);
        x.fill(2, 0, 3, Integer.MAX_VALUE);
        x.read(2, 0, 3);
        due("wraps", x.hand(1), 2);
    }

    private static void surplus() {
        PageHold x = new PageHold(9, 16);
        x.fill(5, 0, 64, 0);
        x.tick(1);
        x.fill(1, 0, 128, 0);
        x.fill(0, 64, 64, 0);
        due("half is not more than half", x.told(2), 4);
        due("nothing written", x.told(7), 0);
        x.fill(0, 0, 64, 0);
        due("to a quarter", x.told(2), 2);
        due("oldest first", x.page(5, 0, 1), 0);
        due("then by files", x.page(0, 0, 1), 1);
        due("then by pages", x.page(0, 1, 1), 2);
        due("newest stay", x.page(1, 0, 1), PageHold.NONE);
        dueRecord("record", x, 1, 0, 3);

        PageHold y = new PageHold(8, 16);
        y.fail(0, true);
        y.fail(2, true);
        y.fill(0, 0, 64 * 5, 0);
        due("those that fail left out", y.told(2), 2);
        due("failed 0", y.page(0, 0, 2), 0);
        due("failed 2", y.page(0, 2, 2), 0);
        due("written 4", y.page(0, 4, 2), PageHold.NONE);
        due("writes", y.told(7), 3);
        y.truncate(0, 64 * 4 + 5);
        due("truncate writes nothing", y.told(7), 3);
    }

    private static void truncate() {
        PageHold x = new PageHold(8, 16);
        due("truncate file", x.truncate(12, 0), PageHold.BAD);
        due("truncate -1", x.truncate(0, -1), PageHold.BAD);
        due("truncate 16385", x.truncate(0, 16385), PageHold.BAD);
        due("truncate 16384", x.truncate(0, 16384), 0);
        due("same", x.truncate(0, 16384), 16384);
        due("to a hole", x.truncate(0, 100), 16384);
        due("a hole is not touched", x.told(0), 0);
        x.fill(1, 0, 300, 1);
        x.sync(1);
        x.tick(2);
        x.write(1, 256, 1, 1);
        due("blocks", x.told(8), 11);
        due("cut in", x.truncate(1, 200), 300);
        due("blocks back", x.told(8), 12);
        due("page behind is out", x.page(1, 4, 0), PageHold.NONE);
        due("and not dirty", x.told(2), 1);
        due("cut page is dirty since", x.page(1, 3, 2), 2);
        due("and touched", x.page(1, 3, 5), 1);
        due("others are not", x.page(1, 2, 2), PageHold.NONE);
        due("grow", x.truncate(1, 256), 200);
        x.read(1, 199, 2);
        due("last left", x.hand(0), (1 + 3 * 199) & 255);
        due("cut off", x.hand(1), 0);
        int dirty = x.told(2);
        x.sync(1);
        due("at the edge of a page", x.truncate(1, 128), 256);
        due("nothing is cut within", x.told(2), dirty - 1);
        x.drop();
        due("shadows", x.tree(1, 2), 2);
        due("to 64", x.truncate(1, 64), 128);
        due("shadow gone", x.tree(1, 2), 1);
        int reads = x.told(6);
        due("brought in to be cut", x.truncate(1, 63), 64);
        due("a READ", x.told(6), reads + 1);
        due("in", x.page(1, 0, 2), 2);
        due("to nothing", x.truncate(1, 0), 63);
        due("no pages", x.tree(1, 0), 0);
        due("all blocks free", x.told(8), 16);
        PageHold y = new PageHold(8, 8);
        y.fill(0, 0, 64, 1);
        y.sync(0);
        y.crash();
        y.truncate(0, 10);
        y.crash();
        y.truncate(0, 64);
        y.read(0, 63, 1);
        due("lost cut shows the block's bytes", y.hand(0), (1 + 3 * 63) & 255);
        y.truncate(0, 40);
        y.crash();
        y.write(0, 39, 6, 1);
        y.sync(0);
        due("the file's last byte on disk", y.disk(0, 39), 6);
        due("behind the size 0 on disk, whatever the frame has", y.disk(0, 40), 0);
        due("and at the block's end", y.disk(0, 63), 0);
        y.truncate(0, 64);
        y.read(0, 63, 1);
        due("the frame has what it had", y.hand(0), (1 + 3 * 63) & 255);
        PageHold z = new PageHold(8, 8);
        z.fill(0, 0, 70, 1);
        z.truncate(0, 65);
        z.sync(0);
        due("behind the size 0 on disk", z.disk(1, 1), 0);
        due("before it not", z.disk(1, 0), (1 + 3 * 64) & 255);
    }

    private static void punch() {
        PageHold x = new PageHold(8, 16);
        due("punch file", x.punch(-1, 0, 1), PageHold.BAD);
        due("punch page -1", x.punch(0, -1, 1), PageHold.BAD);
        due("punch page 256", x.punch(0, 256, 1), PageHold.BAD);
        due("punch n 0", x.punch(0, 0, 0), PageHold.BAD);
        due("punch n 257", x.punch(0, 0, 257), PageHold.BAD);
        due("punch as far as 255", x.punch(0, 255, 256), 0);
        x.fill(0, 0, 64 * 4, 1);
        x.sync(0);
        x.drop();
        x.fill(0, 64 * 4, 64, 1);
        x.pin(0, 4, true);
        due("punch", x.punch(0, 2, 256), 3);
        due("size stays", x.size(0), 320);
        due("blocks free", x.told(8), 14);
        due("no shadow", x.page(0, 2, 3), PageHold.NONE);
        due("shadows of others", x.told(4), 2);
        due("pinned no more", x.told(3), 0);
        due("dirty no more", x.told(2), 0);
        due("again", x.punch(0, 2, 256), 0);
        due("reads 0", x.read(0, 127, 2), 2);
        due("byte before", x.hand(0), (1 + 3 * 127) & 255);
        due("byte in", x.hand(1), 0);
        x.fill(1, 0, 64, 5);
        x.sync(1);
        due("least free block", x.page(1, 0, 1), 2);
        due("the disk keeps what it had", x.disk(3, 0), (1 + 3 * 192) & 255);
    }

    private static void sync() {
        PageHold x = new PageHold(16, 8);
        due("sync file", x.sync(12), PageHold.BAD);
        x.write(0, 64 * 9, 1, 1);
        x.write(0, 64 * 2, 2, 1);
        x.write(1, 0, 3, 1);
        due("sync", x.sync(0), 2);
        due("rising pages", x.page(0, 2, 1), 0);
        due("other file", x.page(1, 0, 1), PageHold.NONE);
        dueRecord("record", x, 1, 0, 2);
        due("again", x.sync(0), 0);
        dueRecord("record stays", x, 1, 0, 2);
        x.fail(0, true);
        x.write(0, 64 * 9, 4, 1);
        x.write(0, 64 * 2, 5, 1);
        due("error", x.sync(0), PageHold.DEFECT);
        due("the other was written", x.page(0, 9, 2), PageHold.NONE);
        due("told", x.tree(0, 5), 0);
        x.tick(5);
        x.fail(0, false);
        due("an old error is told", x.tree(0, 5), PageHold.DEFECT);
        due("and the page written", x.sync(0), PageHold.DEFECT);
        due("clean", x.told(2), 0);
        due("none then", x.sync(0), 0);
        x.fail(0, true);
        x.write(2, 0, 1, 1);
        x.fill(3, 0, 64 * 5, 1);
        due("five of eight blocks are left for six pages", x.syncAll(), 5);
        x.write(0, 64 * 2, 6, 1);
        x.write(0, 64 * 20, 6, 1);
        due("first error stays", x.sync(0), PageHold.DEFECT);
        x.fail(0, false);
        due("then the other", x.sync(0), PageHold.NO_ROOM);
        due("two without a block", x.told(2), 2);
    }

    private static void syncAll() {
        PageHold x = new PageHold(16, 8);
        x.write(5, 64, 1, 1);
        x.sync(5);
        x.write(3, 0, 1, 1);
        x.write(1, 64 * 7, 1, 1);
        x.write(1, 64 * 3, 1, 1);
        x.write(5, 64, 2, 1);
        x.fail(2, true);
        due("syncAll", x.syncAll(), 3);
        due("by files, then pages", x.page(1, 3, 1), 1);
        due("second", x.page(1, 7, 1), 2);
        due("third", x.page(3, 0, 1), 3);
        dueRecord("rising blocks", x, 1, 0, 2, 1, 3, 1);
        due("error stays", x.tree(1, 5), PageHold.DEFECT);
        x.fail(2, false);
        due("syncAll again", x.syncAll(), 1);
        due("error stays still", x.tree(1, 5), PageHold.DEFECT);
        x.fill(0, 0, 64 * 6, 0);
        due("those that get none fail", x.syncAll(), 4);
        due("no room", x.tree(0, 5), PageHold.NO_ROOM);
        due("two left", x.told(2), 2);
        due("files with an error", x.told(11), 2);
    }

    private static void tick() {
        PageHold x = new PageHold(32, 64);
        due("tick -1", x.tick(-1), PageHold.BAD);
        due("tick 1001", x.tick(1001), PageHold.BAD);
        due("time", x.told(9), 0);
        x.fill(0, 0, 64 * 10, 0);
        due("tick 4", x.tick(4), 0);
        due("tick 0", x.tick(0), 0);
        due("at five, four", x.tick(1), 4);
        due("the oldest", x.next(0, 0, 1), 4);
        due("four more", x.tick(1), 4);
        due("two", x.tick(1), 2);
        due("none", x.tick(1000), 0);
        due("time then", x.told(9), 1007);
        x.fill(0, 0, 64 * 5, 0);
        x.tick(2);
        x.fill(1, 0, 64, 0);
        x.fail(0, true);
        x.fail(1, true);
        due("those that fail count", x.tick(3), 2);
        due("left", x.told(2), 4);
        due("again", x.tick(1), 1);
        due("not yet five", x.page(1, 0, 2), 1009);
        due("then", x.tick(1), 1);
        due("in the record is a call", x.told(10), 1);
        due("two fail", x.told(2), 2);
        x.fail(2, true);
        x.fail(3, true);
        x.fill(0, 0, 64 * 5, 0);
        due("four that fail hold up the fifth", x.tick(10), 0);
        x.fail(3, false);
        due("till one goes", x.tick(1), 1);
        due("then the fifth", x.tick(1), 1);
    }

    private static void drop() {
        PageHold x = new PageHold(8, 8);
        x.truncate(1, 640);
        x.fill(0, 0, 192, 1);
        x.sync(0);
        x.write(0, 64, 1, 1);
        x.pin(1, 0, true);
        x.pin(1, 1, true);
        x.pin(1, 1, false);
        due("drop", x.drop(), 3);
        due("by files, then pages", x.page(0, 0, 3), 1);
        due("second", x.page(0, 2, 3), 2);
        due("third", x.page(1, 1, 3), 3);
        due("dirty stays", x.page(0, 1, 2), 0);
        due("pinned stays", x.page(1, 0, 6), 1);
        due("evicted", x.told(5), 3);
        due("again", x.drop(), 0);
        PageHold y = new PageHold(4, 8);
        y.truncate(0, 640);
        for (int round = 0; round < 3; round++) {
            for (int p = 0; p < 3; p++) y.pin(0, p + 3 * round, true);
            for (int p = 0; p < 3; p++) y.pin(0, p + 3 * round, false);
            y.drop();
        }
        due("shadows at most", y.told(4), 4);
    }

    private static void crash() {
        PageHold x = new PageHold(4, 8);
        x.fill(0, 0, 128, 1);
        x.sync(0);
        x.drop();
        x.read(0, 0, 128);
        x.fail(7, true);
        x.tick(3);
        x.fill(0, 64, 64, 99);
        x.fill(0, 128, 10, 99);
        x.pin(0, 0, true);
        due("window before", x.tree(0, 3), 2);
        due("crash", x.crash(), 2);
        for (int w = 0; w < 5; w++) due("told " + w, x.told(w), 0);
        due("evicted stays", x.told(5), 2);
        due("reads stay", x.told(6), 2);
        due("writes stay", x.told(7), 2);
        due("time stays", x.told(9), 3);
        dueRecord("record stays", x, 0, 0, 2);
        due("size stays", x.size(0), 138);
        due("window", x.tree(0, 3), 1);
        due("next", x.tree(0, 4), 0);
        due("no entries", x.tree(0, 2), 0);
        due("hand", x.hand(0), PageHold.NONE);
        due("fails still", x.fail(7, true), false);
        due("block stays", x.page(0, 1, 1), 1);
        due("read", x.read(0, 64, 200), 74);
        due("as the disk has it", x.hand(0), (1 + 3 * 64) & 255);
        due("never written", x.hand(64), 0);
        due("nothing lost", x.crash(), 0);
        PageHold y = stuck();
        due("error", y.told(11), 1);
        y.crash();
        due("no error", y.told(11), 0);
        due("page has its block that failed", y.page(0, 0, 1), 1);
    }

    private static void fail() {
        PageHold x = new PageHold(4, 8);
        due("fail -1", x.fail(-1, true), false);
        due("fail 8", x.fail(8, true), false);
        due("not failing", x.fail(7, false), false);
        due("fails", x.fail(7, true), true);
        due("fails already", x.fail(7, true), false);
        due("no more", x.fail(7, false), true);
        x.fill(0, 0, 10, 4);
        x.sync(0);
        x.drop();
        x.fail(0, true);
        due("a block that fails can be read", x.read(0, 0, 10), 10);
        due("its byte", x.hand(1), 7);
        due("a READ", x.told(6), 1);
        x.fill(1, 0, 10, 4);
        x.fail(1, true);
        due("the least free though it fails", x.sync(1), PageHold.DEFECT);
        due("has it", x.page(1, 0, 1), 1);
        due("nothing on it", x.disk(1, 1), 0);
        dueRecord("it is no write", x, 0, 0, 1);
    }

    private static void pin() {
        PageHold x = new PageHold(5, 8);
        x.truncate(0, 64 * 4 + 1);
        due("pin file", x.pin(12, 0, true), false);
        due("pin page", x.pin(0, 256, true), false);
        due("pin page -1", x.pin(0, -1, false), false);
        due("without a byte", x.pin(0, 5, true), false);
        due("nothing in", x.told(0), 0);
        due("with one", x.pin(0, 4, true), false);
        due("pinned", x.page(0, 4, 6), 1);
        due("nothing comes ahead", x.pin(0, 0, true), false);
        due("two in", x.told(0), 2);
        due("next", x.tree(0, 4), 0);
        due("half are", x.pin(0, 1, true), false);
        due("nothing is done", x.told(0), 2);
        due("pinned already", x.pin(0, 4, true), true);
        due("is touched", x.page(0, 4, 5), 1);
        due("unpin", x.pin(0, 4, false), true);
        due("not touched", x.page(0, 4, 7), 0);
        due("again", x.pin(0, 4, false), false);
        due("unpin one that is out", x.pin(0, 3, false), false);
        due("not brought in", x.told(0), 2);
        due("now there is one", x.pin(0, 1, true), false);
        due("two pinned", x.told(3), 2);
        x.truncate(0, 64);
        due("cut off", x.told(3), 1);
    }

    private static void size() {
        PageHold x = new PageHold(4, 8);
        due("size -1", x.size(-1), PageHold.BAD);
        due("size 12", x.size(12), PageHold.BAD);
        due("size 11", x.size(11), 0);
        x.write(11, 5, 0, 1);
        due("size 6", x.size(11), 6);
    }

    private static void page() {
        PageHold x = new PageHold(4, 8);
        int[][] bad = {{-1, 0, 0}, {12, 0, 0}, {0, -1, 0}, {0, 256, 0}, {0, 0, -1}, {0, 0, 8}};
        for (int[] b : bad) due("page " + b[0] + " " + b[1] + " " + b[2], x.page(b[0], b[1], b[2]), PageHold.BAD);
        for (int w = 0; w < 8; w++) due("page out " + w, x.page(11, 255, w), w < 5 ? PageHold.NONE : 0);
        x.tick(7);
        x.fill(2, 64, 128, 0);
        x.read(2, 64, 1);
        int[] want = {0, PageHold.NONE, 7, PageHold.NONE, 1, 1, 0, 0};
        for (int w = 0; w < 8; w++) due("page 2 1 " + w, x.page(2, 1, w), want[w]);
        x.read(2, 64, 1);
        x.sync(2);
        x.pin(2, 1, true);
        int[] then = {0, 0, PageHold.NONE, PageHold.NONE, 0, 1, 1, 1};
        for (int w = 0; w < 8; w++) due("page 2 1 then " + w, x.page(2, 1, w), then[w]);
        x.drop();
        int[] went = {PageHold.NONE, 1, PageHold.NONE, 1, PageHold.NONE, 0, 0, 0};
        for (int w = 0; w < 8; w++) due("page 2 2 " + w, x.page(2, 2, w), went[w]);
    }

    private static void next() {
        PageHold x = new PageHold(8, 8);
        int[][] bad = {{-1, 0, 0}, {12, 0, 0}, {0, -1, 0}, {0, 256, 0}, {0, 0, -1}, {0, 0, 5}};
        for (int[] b : bad) due("next " + b[0] + " " + b[1] + " " + b[2], x.next(b[0], b[1], b[2]), PageHold.BAD);
        x.truncate(0, 16384);
        x.pin(0, 3, true);
        x.read(0, 64 * 7, 1);
        x.drop();
        x.read(0, 64 * 200, 1);
        x.read(0, 64 * 200, 1);
        x.write(0, 16383, 1, 1);
        int[] from0 = {3, 255, 200, 3, 7};
        int[] from4 = {200, 255, 200, -1, 7};
        for (int m = 0; m < 5; m++) {
            due("next from 0 by " + m, x.next(0, 0, m), from0[m]);
            due("next from 4 by " + m, x.next(0, 4, m), from4[m]);
        }
        due("next from itself", x.next(0, 255, 1), 255);
        due("next of another", x.next(1, 0, 0), PageHold.NONE);
    }

    private static void tree() {
        PageHold x = new PageHold(16, 8);
        due("tree -1", x.tree(-1, 0), PageHold.BAD);
        due("tree 12", x.tree(12, 0), PageHold.BAD);
        due("tree what -1", x.tree(0, -1), PageHold.BAD);
        due("tree what 6", x.tree(0, 6), PageHold.BAD);
        int[] first = {0, 0, 0, 1, 0, 0};
        for (int w = 0; w < 6; w++) due("tree at first " + w, x.tree(0, w), first[w]);
        x.truncate(0, 16384);
        int[][] heights = {{3, 1, 1}, {4, 2, 3}, {15, 2, 4}, {16, 3, 7}, {63, 3, 9}, {64, 4, 13}, {255, 4, 16}};
        for (int[] h : heights) {
            x.pin(0, h[0], true);
            due("height with " + h[0], x.tree(0, 0), h[1]);
            due("nodes with " + h[0], x.tree(0, 1), h[2]);
        }
        due("entries", x.tree(0, 2), 7);
        x.pin(0, 255, false);
        x.drop();
        due("a shadow is an entry", x.tree(0, 0), 4);
        due("entries with it", x.tree(0, 2), 7);
        x.punch(0, 64, 192);
        due("height without", x.tree(0, 0), 3);
        due("nodes without", x.tree(0, 1), 9);
        PageHold y = stuck();
        due("error", y.tree(0, 5), PageHold.DEFECT);
        due("asking tells it not", y.tree(0, 5), PageHold.DEFECT);
    }

    private static void listed() {
        PageHold x = new PageHold(4, 8);
        due("listed -1", x.listed(true, -1), PageHold.NONE);
        due("listed none", x.listed(false, 0), PageHold.NONE);
        x.write(11, 16383, 1, 1);
        x.write(2, 0, 1, 1);
        dueList("inactive", x, false, 512, 11 * 256 + 255);
        x.read(11, 16383, 1);
        x.read(11, 16383, 1);
        dueList("inactive then", x, false, 512);
        dueList("active then", x, true, 11 * 256 + 255);
        due("listed far", x.listed(true, Integer.MAX_VALUE), PageHold.NONE);
    }

    private static void disk() {
        PageHold x = new PageHold(4, 8);
        int[][] bad = {{-1, 0}, {8, 0}, {0, -1}, {0, 64}};
        for (int[] b : bad) due("disk " + b[0] + " " + b[1], x.disk(b[0], b[1]), PageHold.BAD);
        x.fill(0, 0, 64, 1);
        due("not yet", x.disk(0, 63), 0);
        x.sync(0);
        due("then", x.disk(0, 63), (1 + 3 * 63) & 255);
        x.write(0, 63, 5, 1);
        due("as the disk has it", x.disk(0, 63), (1 + 3 * 63) & 255);
        due("block 7", x.disk(7, 63), 0);
    }

    private static void record() {
        PageHold x = new PageHold(8, 16);
        due("run what -1", x.run(0, -1), PageHold.BAD);
        due("run what 3", x.run(0, 3), PageHold.BAD);
        due("BAD first", x.run(-1, 3), PageHold.BAD);
        due("run -1", x.run(-1, 0), PageHold.NONE);
        due("run 0", x.run(0, 2), PageHold.NONE);
        x.fill(0, 0, 64 * 4, 0);
        x.sync(0);
        x.drop();
        for (int p = 3; p >= 0; p--) x.pin(0, p, true);
        dueRecord("one call each", x, 0, 0, 1);
        x.crash();
        x.punch(0, 1, 1);
        x.write(1, 0, 1, 1);
        x.write(1, 64 * 3, 1, 1);
        x.sync(1);
        dueRecord("two runs", x, 1, 1, 1, 1, 4, 1);
        x.crash();
        x.read(0, 0, 256);
        dueRecord("a hole between", x, 0, 0, 1, 0, 2, 2);
        x.read(0, 0, 256);
        x.read(0, -1, 0);
        x.tick(9);
        dueRecord("stays", x, 0, 0, 1, 0, 2, 2);
        due("run 2", x.run(2, 0), PageHold.NONE);
        due("reads", x.told(6), 7);
        due("writes", x.told(7), 6);

        PageHold d = new PageHold(4, 8);
        d.fill(0, 0, 64, 0);
        d.fill(1, 0, 64, 0);
        d.syncAll();
        d.drop();
        d.pin(1, 0, true);
        d.pin(1, 0, false);
        d.drop();
        d.truncate(0, 128);
        due("down is no run", d.read(0, 0, 1), 1);
        dueRecord("a read alone", d, 0, 0, 1);
    }

    private static void told() {
        PageHold x = new PageHold(4, 8);
        due("told -1", x.told(-1), PageHold.BAD);
        due("told 12", x.told(12), PageHold.BAD);
        x.fill(0, 0, 256, 0);
        x.tick(2);
        x.read(0, 0, 1);
        x.read(0, 0, 1);
        x.pin(0, 1, true);
        x.fail(7, true);
        x.truncate(0, 640);
        x.read(0, 320, 1);
        x.write(0, 0, 1, 1);
        int[] want = {4, 1, 2, 1, 1, 1, 0, 3, 5, 2, 1, 0};
        for (int w = 0; w < 12; w++) due("told " + w, x.told(w), want[w]);
        PageHold y = stuck();
        due("files with an error", y.told(11), 1);
        due("free blocks", y.told(8), 3);
    }
}
