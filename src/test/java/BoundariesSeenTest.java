/** The boundary cases of promises 15 to 22, a test for each sentence that names one. */
public final class BoundariesSeenTest {
    private static final int MIN = Integer.MIN_VALUE;
    private static final int MAX = Integer.MAX_VALUE;
    private static final int[] NO_FILES = {-1, 12, MIN, MAX};
    private static final int[] NO_PAGES = {-1, 256, MIN, MAX};

    public static void main(String[] args) {
        Checks.run(BoundariesSeenTest.class);
    }

    /** What is asked for by 15 to 22 and hand changes nothing, however often. */
    static void promise15_to22_askingChangesNothing() {
        PageHold x = Checks.busy();
        String first = Checks.traces(x);
        for (int m = 0; m < 5; m++) for (int f = 0; f < 12; f++) x.next(f, 0, m);
        Checks.dueSame("asked twice", first, Checks.traces(x));
    }

    // ---- promise 15

    static void promise15_noSuchFile() {
        PageHold x = Checks.busy();
        for (int f : NO_FILES) Checks.dueRefused("file " + f, x, PageHold.BAD, h -> h.size(f));
    }

    static void promise15_leastAndMost() {
        PageHold x = new PageHold(4, 8);
        Checks.due("file 0", x.size(0), 0);
        Checks.due("file 11", x.size(11), 0);
        x.truncate(11, 16384);
        Checks.due("file 11", x.size(11), 16384);
        Checks.due("file 10", x.size(10), 0);
    }

    // ---- promise 16

    static void promise16_noSuchFileOrPage() {
        PageHold x = Checks.busy();
        for (int w = 0; w < 8; w++) {
            int what = w;
            for (int f : NO_FILES) Checks.due("file " + f, x.page(f, 0, what), PageHold.BAD);
            for (int p : NO_PAGES) Checks.due("page " + p, x.page(2, p, what), PageHold.BAD);
        }
    }

    static void promise16_noSuchWhat() {
        PageHold x = Checks.busy();
        for (int w : new int[] {-1, 8, MIN, MAX}) {
            Checks.due("of one that is in, " + w, x.page(3, 8, w), PageHold.BAD);
            Checks.due("of one that is out, " + w, x.page(9, 255, w), PageHold.BAD);
        }
    }

    static void promise16_ofAPageThatNeverWas() {
        PageHold x = new PageHold(4, 8);
        for (int p : new int[] {0, 255}) {
            Checks.dueRow("page " + p, w -> x.page(11, p, w), -1, -1, -1, -1, -1, 0, 0, 0, PageHold.BAD);
        }
    }

    static void promise16_ofAPageThatIsIn() {
        PageHold x = Checks.holes(4, 8, 4);
        Checks.touch(x, 0, 0, 1, 2);
        Checks.dueRow("clean", w -> x.page(0, 1, w), 1, -1, -1, -1, 1, 0, 0, 0);
        x.pin(0, 1, true);
        Checks.dueRow("pinned, seen again", w -> x.page(0, 1, w), 1, -1, -1, -1, 1, 1, 1, 0);
        x.write(0, 64, 5, 1);
        Checks.dueRow("dirty since 0, active", w -> x.page(0, 1, w), 1, -1, 0, -1, 0, 0, 1, 1);
        x.sync(0);
        Checks.dueRow("with a block", w -> x.page(0, 1, w), 1, 0, -1, -1, 0, 0, 1, 1);
    }

    static void promise16_ofAPageThatWent() {
        PageHold x = Checks.holes(4, 8, 4);
        x.write(0, 64, 5, 1);
        x.sync(0);
        Checks.touch(x, 0, 1, 1, 1);
        Checks.touch(x, 0, 0);
        x.drop();
        Checks.dueRow("page 1", w -> x.page(0, 1, w), -1, 0, -1, 2, -1, 0, 0, 0);
        Checks.dueRow("page 0", w -> x.page(0, 0, w), -1, -1, -1, 1, -1, 0, 0, 0);
    }

    static void promise16_placesOnBothListsFromTheFront() {
        PageHold x = Checks.holes(8, 8, 8);
        Checks.activate(x, 0, 0, 1, 2);
        Checks.touch(x, 0, 3, 4, 5);
        Checks.dueRow("places", p -> x.page(0, p, 4), 2, 1, 0, 2, 1, 0, -1);
        Checks.dueRow("active", p -> x.page(0, p, 7), 1, 1, 1, 0, 0, 0, 0);
    }

    // ---- promise 17

    static void promise17_noSuchFileOrPage() {
        PageHold x = Checks.busy();
        for (int m = 0; m < 5; m++) {
            int mark = m;
            for (int f : NO_FILES) Checks.due("file " + f, x.next(f, 0, mark), PageHold.BAD);
            for (int p : NO_PAGES) Checks.due("page " + p, x.next(2, p, mark), PageHold.BAD);
        }
    }

    static void promise17_noSuchMark() {
        PageHold x = Checks.busy();
        for (int m : new int[] {-1, 5, MIN, MAX}) Checks.due("mark " + m, x.next(2, 0, m), PageHold.BAD);
    }

    static void promise17_none() {
        PageHold x = Checks.busy();
        for (int m = 0; m < 5; m++) {
            Checks.due("another file, " + m, x.next(9, 0, m), PageHold.NONE);
            Checks.due("behind all, " + m, x.next(2, 255, m), PageHold.NONE);
        }
    }

    static void promise17_fromTheOneItself() {
        PageHold x = new PageHold(8, 8);
        x.write(0, 64 * 5, 1, 1);
        x.write(0, 64 * 5, 1, 1);
        x.pin(0, 0, true);
        x.write(1, 0, 1, 1);
        x.pin(1, 0, true);
        for (int m = 0; m < 2; m++) {
            Checks.due("from 1", x.next(0, 1, m), 5);
            Checks.due("from 5", x.next(0, 5, m), 5);
            Checks.due("from 6: not the next file's", x.next(0, 6, m), PageHold.NONE);
        }
        Checks.due("referenced", x.next(0, 5, 2), 5);
        Checks.due("pinned", x.next(0, 0, 3), 0);
        Checks.due("pinned from 1", x.next(0, 1, 3), PageHold.NONE);
    }

    static void promise17_firstAndLastPage() {
        PageHold x = new PageHold(8, 8);
        x.truncate(0, 16384);
        Checks.touch(x, 0, 0, 255);
        Checks.due("first", x.next(0, 0, 0), 0);
        Checks.due("from 1", x.next(0, 1, 0), 255);
        Checks.due("from 255", x.next(0, 255, 0), 255);
        x.drop();
        Checks.due("not in", x.next(0, 0, 0), PageHold.NONE);
        Checks.due("shadow of 0", x.next(0, 0, 4), 0);
        Checks.due("shadow of 255", x.next(0, 1, 4), 255);
        Checks.due("the same from 255", x.next(0, 255, 4), 255);
    }

    static void promise17_eachMarkAlone() {
        PageHold x = Checks.holes(8, 8, 8);
        Checks.touch(x, 0, 7);
        x.drop();
        Checks.touch(x, 0, 0);
        x.write(0, 64, 1, 1);
        Checks.touch(x, 0, 2, 2);
        x.pin(0, 3, true);
        for (int m = 0; m < 5; m++) Checks.due("mark " + m, x.next(0, 0, m), new int[] {0, 1, 2, 3, 7}[m]);
    }

    // ---- promise 18

    static void promise18_noSuchFileOrWhat() {
        PageHold x = Checks.busy();
        for (int w = 0; w < 6; w++) for (int f : NO_FILES) Checks.due("file " + f, x.tree(f, w), PageHold.BAD);
        for (int w : new int[] {-1, 6, MIN, MAX}) Checks.due("what " + w, x.tree(2, w), PageHold.BAD);
    }

    static void promise18_eachWhat() {
        PageHold x = Checks.holes(8, 8, 20);
        x.read(0, 0, 1);
        x.read(0, 128, 1);
        x.fail(0, true);
        x.write(0, 64 * 17, 1, 1);
        x.tick(5);
        // 0 to 5 by reading, and 17: above, 0, 1 and 4; then 0 and 1; then one.
        Checks.dueRow("tree", w -> x.tree(0, w), 3, 6, 7, 4, 6, PageHold.DEFECT);
        Checks.dueRow("another's", w -> x.tree(1, w), 0, 0, 0, 1, 0, 0);
    }

    static void promise18_errorStaysWhenAskedFor() {
        PageHold x = Checks.stuck();
        for (int i = 0; i < 3; i++) Checks.due("error", x.tree(0, 5), PageHold.DEFECT);
        Checks.due("sync tells it", x.sync(0), PageHold.DEFECT);
        Checks.failAll(x, false);
        Checks.due("none any more, all are written", x.sync(0), 4);
    }

    // ---- promise 19

    static void promise19_noSuchPlace() {
        PageHold x = Checks.holes(4, 8, 4);
        for (int k : new int[] {0, -1, MIN, MAX}) {
            Checks.due("active", x.listed(true, k), PageHold.NONE);
            Checks.due("inactive", x.listed(false, k), PageHold.NONE);
        }
        Checks.activate(x, 0, 0);
        Checks.touch(x, 0, 1, 2);
        Checks.dueRow("active", k -> x.listed(true, k), 0, PageHold.NONE, PageHold.NONE);
        Checks.dueRow("inactive", k -> x.listed(false, k), 2, 1, PageHold.NONE);
        for (int k : new int[] {-1, MIN, MAX}) {
            Checks.due("active " + k, x.listed(true, k), PageHold.NONE);
            Checks.due("inactive " + k, x.listed(false, k), PageHold.NONE);
        }
    }

    static void promise19_fileAndPage() {
        PageHold x = new PageHold(4, 8);
        x.truncate(11, 16384);
        x.truncate(1, 64);
        Checks.touch(x, 11, 255, 0);
        Checks.touch(x, 1, 0);
        Checks.dueList("inactive", x, false, 256, 2816, 3071);
    }

    static void promise19_allFramesOnOneList() {
        PageHold x = Checks.holes(64, 8, 64);
        for (int p = 0; p < 64; p++) Checks.touch(x, 0, p);
        Checks.due("front", x.listed(false, 0), 63);
        Checks.due("end", x.listed(false, 63), 0);
        Checks.due("behind", x.listed(false, 64), PageHold.NONE);
        for (int p = 0; p < 64; p++) Checks.touch(x, 0, p, p);
        Checks.due("front of active", x.listed(true, 0), 63);
        Checks.due("end of active", x.listed(true, 63), 0);
        Checks.due("none inactive", x.listed(false, 0), PageHold.NONE);
    }

    // ---- promise 20

    static void promise20_noSuchBlockOrByte() {
        PageHold x = Checks.busy();
        for (int b : new int[] {-1, 16, 17, MIN, MAX}) Checks.due("block " + b, x.disk(b, 0), PageHold.BAD);
        for (int i : new int[] {-1, 64, MIN, MAX}) Checks.due("byte " + i, x.disk(0, i), PageHold.BAD);
        Checks.due("neither by the other", x.disk(1, -1), PageHold.BAD);
    }

    static void promise20_firstAndLastByte() {
        PageHold x = new PageHold(4, 512);
        x.fill(0, 0, 128, 128);
        x.sync(0);
        Checks.due("first", x.disk(0, 0), 128);
        Checks.due("last", x.disk(0, 63), (128 + 3 * 63) & 255);
        Checks.due("the next block's first", x.disk(1, 0), (128 + 3 * 64) & 255);
        Checks.due("the last block", x.disk(511, 63), 0);
    }

    static void promise20_asTheDiskHasIt() {
        PageHold x = new PageHold(4, 8);
        x.write(0, 0, 200, 1);
        Checks.due("not yet", x.disk(0, 0), 0);
        x.sync(0);
        Checks.due("written", x.disk(0, 0), 200);
        x.write(0, 0, 201, 1);
        Checks.due("still", x.disk(0, 0), 200);
        x.fail(0, true);
        x.sync(0);
        Checks.due("when it failed", x.disk(0, 0), 200);
    }

    // ---- promise 21

    static void promise21_noSuchWhat() {
        PageHold x = Checks.busy();
        for (int w : new int[] {-1, 3, MIN, MAX}) {
            Checks.due("of a run", x.run(0, w), PageHold.BAD);
            Checks.due("of none", x.run(-1, w), PageHold.BAD);
            Checks.due("of none behind", x.run(999, w), PageHold.BAD);
        }
    }

    static void promise21_noSuchRun() {
        PageHold x = new PageHold(4, 8);
        for (int w = 0; w < 3; w++) Checks.due("at first", x.run(0, w), PageHold.NONE);
        x.fill(0, 0, 64, 1);
        x.sync(0);
        for (int w = 0; w < 3; w++) {
            for (int k : new int[] {1, 2, -1, 256, MIN, MAX}) Checks.due("run " + k, x.run(k, w), PageHold.NONE);
        }
        Checks.dueRow("run 0", w -> x.run(0, w), 1, 0, 1);
    }

    static void promise21_oneThatWasOfAnOlderRecord() {
        PageHold x = new PageHold(8, 8);
        x.fill(0, 0, 128, 1);
        x.fail(1, true);
        x.fill(0, 128, 128, 1);
        x.sync(0);
        Checks.dueRecord("two runs", x, 1, 0, 1, 1, 2, 2);
        x.drop();
        x.write(0, 0, 5, 1);
        Checks.dueRecord("one run", x, 0, 0, 1);
    }

    // ---- promise 22

    static void promise22_noSuchWhat() {
        PageHold x = Checks.busy();
        for (int w : new int[] {-1, 12, 13, MIN, MAX}) Checks.due("told " + w, x.told(w), PageHold.BAD);
    }

    static void promise22_eachWhat() {
        PageHold x = new PageHold(8, 16);
        x.tick(4);
        x.fill(0, 0, 128, 1);
        x.sync(0);
        x.drop();
        x.read(0, 0, 128);
        x.truncate(1, 640);
        x.pin(1, 0, true);
        Checks.activate(x, 1, 1);
        x.write(2, 0, 1, 1);
        x.fail(2, true);
        x.sync(2);
        x.tick(6);
        x.write(0, 0, 9, 1);
        Checks.touch(x, 1, 5);
        x.drop();
        // Left: file 0 page 0 (dirty), file 1 page 0 (pinned), file 2 page 0 (dirty, its block fails);
        // 0/1, 1/1 and 1/5 went, behind the two that went before.
        Checks.dueRow("told", x::told, 3, 0, 2, 1, 3, 5, 2, 2, 13, 10, 1, 1);
    }

    static void promise22_activeAreCountedApart() {
        PageHold x = Checks.holes(8, 8, 8);
        Checks.activate(x, 0, 0, 1);
        Checks.touch(x, 0, 2);
        Checks.due("in", x.told(0), 3);
        Checks.due("active", x.told(1), 2);
    }

    static void promise22_filesWithAnError() {
        PageHold x = new PageHold(64, 64);
        Checks.failAll(x, true);
        for (int f = 0; f < 12; f++) {
            x.write(f, 0, 1, 1);
            x.write(f, 64, 1, 1);
        }
        Checks.due("none yet", x.told(11), 0);
        Checks.due("syncAll", x.syncAll(), 0);
        Checks.due("all twelve", x.told(11), 12);
        x.sync(11);
        Checks.due("eleven", x.told(11), 11);
    }

    static void promise22_freeBlocks() {
        PageHold x = new PageHold(16, 8);
        x.fill(0, 0, 64 * 8, 1);
        Checks.due("not yet taken", x.told(8), 8);
        x.sync(0);
        Checks.due("none", x.told(8), 0);
        x.punch(0, 0, 1);
        Checks.due("one", x.told(8), 1);
        x.truncate(0, 64 * 6);
        Checks.due("three", x.told(8), 3);
        x.crash();
        Checks.due("three still", x.told(8), 3);
    }
}
