/** The boundary cases of promises 8 to 14, a test for each sentence that names one. */
public final class BoundariesDiskTest {
    private static final int MIN = Integer.MIN_VALUE;
    private static final int MAX = Integer.MAX_VALUE;
    private static final int[] NO_FILES = {-1, 12, MIN, MAX};

    public static void main(String[] args) {
        Checks.run(BoundariesDiskTest.class);
    }

    // ---- promise 8

    static void promise08_noSuchFile() {
        PageHold x = Checks.busy();
        for (int f : NO_FILES) Checks.dueRefused("file " + f, x, PageHold.BAD, h -> h.sync(f));
    }

    static void promise08_nothingDirty() {
        PageHold x = new PageHold(4, 8);
        x.truncate(11, 64);
        Checks.touch(x, 11, 0);
        Checks.dueRefused("sync", x, 0, h -> h.sync(11));
    }

    static void promise08_risingPagesOfOneFile() {
        PageHold x = new PageHold(16, 8);
        x.write(1, 0, 1, 1);
        x.write(0, 16383, 2, 1);
        x.tick(1);
        x.write(0, 64, 3, 1);
        x.write(0, 0, 4, 1);
        Checks.due("sync", x.sync(0), 3);
        Checks.due("page 0", x.page(0, 0, 1), 0);
        Checks.due("page 1", x.page(0, 1, 1), 1);
        Checks.due("page 255", x.page(0, 255, 1), 2);
        Checks.dueRecord("record", x, 1, 0, 3);
        Checks.due("the other file is dirty", x.told(2), 1);
        Checks.due("again", x.sync(0), 0);
    }

    static void promise08_notThoseOfTheFilesBesideIt() {
        PageHold x = new PageHold(8, 8);
        x.write(4, 16383, 1, 1);
        x.write(6, 0, 1, 1);
        Checks.dueRefused("sync", x, 0, h -> h.sync(5));
        Checks.due("the one before", x.sync(4), 1);
        Checks.due("the one behind", x.sync(6), 1);
    }

    static void promise08_pinnedAndActiveAreWrittenAndStay() {
        PageHold x = new PageHold(4, 8);
        x.write(0, 0, 1, 1);
        x.pin(0, 0, true);
        x.write(0, 0, 1, 1);
        Checks.due("sync", x.sync(0), 1);
        Checks.dueRow("page", w -> x.page(0, 0, w), 0, 0, -1, -1, 0, 0, 1, 1);
    }

    static void promise08_errorInsteadOfHowMany() {
        PageHold x = new PageHold(16, 8);
        x.fill(0, 0, 192, 1);
        x.fail(1, true);
        Checks.due("sync", x.sync(0), PageHold.DEFECT);
        Checks.dueRow("the others were written", p -> x.page(0, p, 2), -1, 0, -1);
        Checks.due("writes", x.told(7), 2);
        Checks.due("it has none any more", x.tree(0, 5), 0);
        Checks.due("it fails again", x.sync(0), PageHold.DEFECT);
        x.fail(1, false);
        Checks.due("then how many", x.sync(0), 1);
    }

    static void promise08_olderErrorIsToldThoughAllWereWritten() {
        PageHold x = new PageHold(16, 8);
        x.write(0, 0, 1, 1);
        x.fail(0, true);
        x.tick(5);
        x.fail(0, false);
        Checks.due("sync", x.sync(0), PageHold.DEFECT);
        Checks.due("written", x.told(7), 1);
        Checks.due("not dirty", x.told(2), 0);
        Checks.due("none any more", x.sync(0), 0);
    }

    static void promise08_errorWithoutAnythingDirty() {
        PageHold x = new PageHold(16, 8);
        x.write(0, 0, 1, 1);
        x.fail(0, true);
        x.tick(5);
        x.punch(0, 0, 1);
        Checks.due("sync", x.sync(0), PageHold.DEFECT);
        Checks.due("none any more", x.sync(0), 0);
    }

    static void promise08_noRoom() {
        PageHold x = new PageHold(32, 8);
        x.fill(0, 0, 64 * 9, 1);
        Checks.due("sync", x.sync(0), PageHold.NO_ROOM);
        Checks.due("eight were written", x.told(7), 8);
        Checks.due("no block is free", x.told(8), 0);
        Checks.due("the ninth has none", x.page(0, 8, 1), PageHold.NONE);
        Checks.due("and is dirty", x.page(0, 8, 2), 0);
        x.punch(0, 3, 1);
        Checks.due("with one block free", x.sync(0), 1);
        Checks.due("it has that", x.page(0, 8, 1), 3);
    }

    static void promise08_lastBlockIsGiven() {
        PageHold x = new PageHold(32, 8);
        x.fill(0, 0, 64 * 8, 1);
        Checks.due("sync", x.sync(0), 8);
        Checks.due("block 7", x.page(0, 7, 1), 7);
        Checks.due("free", x.told(8), 0);
    }

    static void promise08_otherFilesErrorStays() {
        PageHold x = new PageHold(16, 8);
        x.write(0, 0, 1, 1);
        x.write(1, 0, 1, 1);
        x.fail(0, true);
        x.fail(1, true);
        x.tick(5);
        Checks.due("two files", x.told(11), 2);
        x.sync(0);
        Checks.due("one file", x.told(11), 1);
        Checks.due("the other's", x.tree(1, 5), PageHold.DEFECT);
    }

    // ---- promise 9

    static void promise09_nothingDirty() {
        PageHold x = new PageHold(4, 8);
        x.truncate(11, 64);
        Checks.touch(x, 11, 0);
        Checks.dueRefused("syncAll", x, 0, h -> h.syncAll());
    }

    static void promise09_blocksByFilesThenPages() {
        PageHold x = new PageHold(16, 8);
        x.write(11, 16383, 1, 1);
        x.write(2, 64, 1, 1);
        x.write(0, 64 * 9, 1, 1);
        x.write(2, 0, 1, 1);
        Checks.due("syncAll", x.syncAll(), 4);
        Checks.due("first", x.page(0, 9, 1), 0);
        Checks.due("second", x.page(2, 0, 1), 1);
        Checks.due("third", x.page(2, 1, 1), 2);
        Checks.due("last", x.page(11, 255, 1), 3);
        Checks.dueRecord("record", x, 1, 0, 4);
    }

    static void promise09_writesByRisingBlocks() {
        PageHold x = new PageHold(16, 8);
        x.write(5, 0, 1, 1);
        x.syncAll();
        x.write(3, 0, 1, 1);
        x.syncAll();
        x.write(3, 0, 2, 1);
        x.write(5, 0, 2, 1);
        x.write(0, 0, 1, 1);
        Checks.due("syncAll", x.syncAll(), 3);
        // By files it would be 2, 1, 0: three runs.
        Checks.dueRecord("record", x, 1, 0, 3);
    }

    static void promise09_thoseThatGetNoBlockFail() {
        PageHold x = new PageHold(32, 8);
        x.fill(0, 0, 64 * 7, 1);
        x.fill(4, 0, 128, 1);
        x.write(7, 0, 1, 1);
        Checks.due("syncAll", x.syncAll(), 8);
        Checks.due("dirty", x.told(2), 2);
        Checks.due("one page of file 4 has a block", x.page(4, 0, 1), 7);
        Checks.due("not the other", x.page(4, 1, 1), PageHold.NONE);
        Checks.due("error of 0", x.tree(0, 5), 0);
        Checks.due("error of 4", x.tree(4, 5), PageHold.NO_ROOM);
        Checks.due("error of 7", x.tree(7, 5), PageHold.NO_ROOM);
    }

    static void promise09_noRoomComesBeforeDefect() {
        PageHold x = new PageHold(32, 8);
        x.fill(0, 0, 64 * 8, 1);
        x.syncAll();
        x.fail(0, true);
        x.write(0, 0, 5, 1);
        x.write(0, 64 * 8, 5, 1);
        Checks.due("syncAll", x.syncAll(), 0);
        // Page 0's block fails, but page 8 went without one before that.
        Checks.due("error", x.tree(0, 5), PageHold.NO_ROOM);
    }

    static void promise09_thoseThatFailAreLeftOut() {
        PageHold x = new PageHold(16, 8);
        x.fill(0, 0, 256, 1);
        x.fail(1, true);
        Checks.due("syncAll", x.syncAll(), 3);
        Checks.dueRecord("record", x, 1, 0, 1, 1, 2, 2);
        Checks.dueRow("since", p -> x.page(0, p, 2), -1, 0, -1, -1);
        Checks.due("it has the block", x.page(0, 1, 1), 1);
    }

    static void promise09_allFramesDirty() {
        PageHold x = Checks.stuck();
        Checks.failAll(x, false);
        Checks.due("syncAll", x.syncAll(), 4);
        Checks.dueRecord("record", x, 1, 2, 4);
        Checks.due("dirty", x.told(2), 0);
    }

    static void promise09_errorsStay() {
        PageHold x = new PageHold(16, 8);
        x.fill(0, 0, 64, 1);
        x.fail(0, true);
        Checks.due("syncAll", x.syncAll(), 0);
        x.fail(0, false);
        Checks.due("how many, not the error", x.syncAll(), 1);
        Checks.due("error", x.tree(0, 5), PageHold.DEFECT);
    }

    // ---- promise 10

    static void promise10_secondsTooFewOrTooMany() {
        PageHold x = Checks.busy();
        for (int s : new int[] {-1, MIN, 1001, MAX}) Checks.dueRefused("tick " + s, x, PageHold.BAD, h -> h.tick(s));
    }

    static void promise10_mostSeconds() {
        PageHold x = new PageHold(4, 8);
        Checks.due("1000", x.tick(1000), 0);
        Checks.due("time", x.told(9), 1000);
        Checks.due("1", x.tick(1), 0);
        Checks.due("time", x.told(9), 1001);
    }

    static void promise10_noSecondWritesNothing() {
        PageHold x = new PageHold(4, 8);
        x.write(0, 0, 1, 1);
        x.fail(0, true);
        x.tick(9);
        x.fail(0, false);
        Checks.dueRefused("tick 0", x, 0, h -> h.tick(0));
        Checks.due("tick 1", x.tick(1), 1);
    }

    static void promise10_fiveSeconds() {
        PageHold x = new PageHold(4, 8);
        x.tick(7);
        x.write(0, 0, 1, 1);
        Checks.due("four", x.tick(4), 0);
        Checks.due("dirty", x.page(0, 0, 2), 7);
        Checks.due("the fifth", x.tick(1), 1);
        Checks.due("not dirty", x.page(0, 0, 2), PageHold.NONE);
    }

    static void promise10_fourEachSecond() {
        PageHold x = new PageHold(32, 32);
        x.fill(3, 0, 64 * 9, 1);
        Checks.due("five seconds", x.tick(5), 4);
        Checks.due("left", x.told(2), 5);
        Checks.due("two seconds", x.tick(2), 5);
        Checks.dueRecord("both in one record", x, 1, 4, 5);
    }

    static void promise10_countsAllSeconds() {
        PageHold x = new PageHold(32, 32);
        x.fill(3, 0, 64 * 9, 1);
        Checks.due("eight seconds", x.tick(8), 9);
        Checks.dueRecord("record", x, 1, 0, 9);
    }

    static void promise10_oldestFirst() {
        PageHold x = new PageHold(32, 32);
        x.write(9, 0, 1, 1);
        x.tick(1);
        x.write(1, 64, 1, 1);
        x.write(1, 0, 1, 1);
        x.write(0, 128, 1, 1);
        x.write(0, 64, 1, 1);
        x.tick(1);
        x.write(0, 0, 1, 1);
        Checks.due("the first alone is due", x.tick(3), 1);
        Checks.due("four more", x.tick(1), 4);
        Checks.due("one more", x.tick(1), 1);
        Checks.due("since 0", x.page(9, 0, 1), 0);
        Checks.due("by files", x.page(0, 1, 1), 1);
        Checks.due("by pages", x.page(0, 2, 1), 2);
        Checks.due("the next file", x.page(1, 0, 1), 3);
        Checks.due("its next page", x.page(1, 1, 1), 4);
        Checks.due("the latest", x.page(0, 0, 1), 5);
    }

    static void promise10_fourthInASecondIsTheFourthOldest() {
        PageHold x = new PageHold(32, 32);
        x.fill(1, 0, 192, 1);
        x.write(0, 0, 1, 1);
        x.write(2, 0, 1, 1);
        x.tick(5);
        Checks.due("the fifth waits", x.page(2, 0, 2), 0);
        Checks.due("dirty", x.told(2), 1);
    }

    static void promise10_thoseThatFailCount() {
        PageHold x = new PageHold(32, 32);
        for (int b = 0; b < 3; b++) x.fail(b, true);
        x.fill(0, 0, 64 * 5, 1);
        Checks.due("one of four tries", x.tick(5), 1);
        Checks.dueRow("since", p -> x.page(0, p, 2), 0, 0, 0, -1, 0);
        Checks.due("then the fifth", x.tick(1), 1);
        Checks.due("three fail", x.tick(10), 0);
        Checks.due("error", x.tree(0, 5), PageHold.DEFECT);
    }

    static void promise10_fourThatFailHoldUpTheFifth() {
        PageHold x = new PageHold(32, 32);
        for (int b = 0; b < 4; b++) x.fail(b, true);
        x.fill(0, 0, 64 * 5, 1);
        Checks.due("none", x.tick(1000), 0);
        Checks.due("the fifth has no block", x.page(0, 4, 1), PageHold.NONE);
        x.fail(0, false);
        Checks.due("one, then the fifth", x.tick(2), 2);
    }

    static void promise10_thoseWithoutABlockCount() {
        PageHold x = new PageHold(32, 8);
        x.fill(0, 0, 512, 1);
        x.sync(0);
        x.fill(0, 512, 256, 1);
        x.tick(1);
        x.write(0, 64 * 7, 1, 1);
        Checks.due("four go without, and hold up the fifth", x.tick(9), 0);
        Checks.due("error", x.tree(0, 5), PageHold.NO_ROOM);
        x.punch(0, 0, 1);
        Checks.due("one gets a block", x.tick(1), 1);
        Checks.due("that of 0", x.page(0, 8, 1), 0);
        Checks.due("then the fifth is the fourth", x.tick(1), 1);
        Checks.due("it is", x.page(0, 7, 2), PageHold.NONE);
        Checks.due("left", x.told(2), 3);
    }

    static void promise10_sinceAnewBehindAWrite() {
        PageHold x = new PageHold(8, 8);
        x.write(0, 0, 1, 1);
        x.tick(3);
        x.sync(0);
        x.write(0, 0, 2, 1);
        Checks.due("not by the old time", x.tick(4), 0);
        Checks.due("by the new one", x.tick(1), 1);
    }

    // ---- promise 11

    static void promise11_nothingToDrop() {
        PageHold x = new PageHold(4, 8);
        Checks.dueRefused("empty", x, 0, h -> h.drop());
        x.fill(0, 0, 128, 1);
        x.truncate(1, 64);
        x.pin(1, 0, true);
        Checks.dueRefused("dirty and pinned", x, 0, h -> h.drop());
    }

    static void promise11_byFilesThenPages() {
        PageHold x = new PageHold(8, 8);
        x.truncate(0, 640);
        x.truncate(11, 16384);
        Checks.touch(x, 11, 255, 0);
        Checks.touch(x, 0, 7, 3);
        Checks.due("drop", x.drop(), 4);
        Checks.due("first", x.page(0, 3, 3), 1);
        Checks.due("second", x.page(0, 7, 3), 2);
        Checks.due("third", x.page(11, 0, 3), 3);
        Checks.due("last", x.page(11, 255, 3), 4);
        Checks.due("none in", x.told(0), 0);
    }

    static void promise11_activeAndReferencedGoToo() {
        PageHold x = Checks.holes(4, 8, 4);
        Checks.activate(x, 0, 0);
        Checks.touch(x, 0, 0, 1, 1);
        Checks.due("drop", x.drop(), 2);
        Checks.dueList("active", x, true);
        Checks.dueList("inactive", x, false);
    }

    static void promise11_fullOfShadowsTheLeastGo() {
        PageHold x = Checks.holes(4, 8, 16);
        Checks.touch(x, 0, 0, 1, 2, 3);
        Checks.due("four", x.drop(), 4);
        Checks.due("all have one", x.told(4), 4);
        Checks.touch(x, 0, 4, 5, 6);
        Checks.due("three", x.drop(), 3);
        Checks.due("four at most", x.told(4), 4);
        Checks.dueRow("shadows", p -> x.page(0, p, 3), -1, -1, -1, 4, 5, 6, 7);
    }

    static void promise11_windowNextAndErrorStay() {
        PageHold x = Checks.holes(8, 8, 8);
        x.read(0, 0, 1);
        x.fail(0, true);
        x.write(0, 0, 1, 1);
        x.tick(5);
        Checks.due("drop", x.drop(), 1);
        Checks.dueRow("tree", w -> x.tree(0, w), 1, 1, 2, 2, 2, PageHold.DEFECT);
        Checks.due("hand stays", x.hand(0), 0);
    }

    static void promise11_writesNothing() {
        PageHold x = new PageHold(4, 8);
        x.fill(0, 0, 128, 1);
        x.drop();
        Checks.due("writes", x.told(7), 0);
        Checks.due("dirty", x.told(2), 2);
    }

    // ---- promise 12

    static void promise12_nothingIn() {
        PageHold x = new PageHold(4, 8);
        Checks.dueRefused("crash", x, 0, h -> h.crash());
    }

    static void promise12_howManyDirtyWereLost() {
        PageHold x = new PageHold(8, 8);
        x.fill(0, 0, 128, 1);
        x.fill(11, 16320, 64, 1);
        x.truncate(1, 64);
        Checks.touch(x, 1, 0);
        Checks.due("crash", x.crash(), 3);
        Checks.due("again", x.crash(), 0);
    }

    static void promise12_allThatIsInIsLost() {
        PageHold x = Checks.busy();
        x.crash();
        Checks.dueRow("told", x::told, 0, 0, 0, 0, 0);
        Checks.dueList("active", x, true);
        Checks.dueList("inactive", x, false);
        for (int f = 0; f < 12; f++) {
            int file = f;
            Checks.dueRow("tree of " + f, w -> x.tree(file, w), 0, 0, 0, 1, 0, 0);
            for (int m = 0; m < 5; m++) Checks.due("next", x.next(f, 0, m), PageHold.NONE);
        }
        Checks.due("no hand", x.hand(0), PageHold.NONE);
        Checks.due("no error", x.told(11), 0);
    }

    static void promise12_pinnedGoToo() {
        PageHold x = Checks.holes(4, 8, 4);
        x.pin(0, 0, true);
        x.pin(0, 1, true);
        x.crash();
        Checks.due("pinned", x.told(3), 0);
        Checks.due("another can be", x.pin(0, 2, true), false);
        Checks.due("is", x.page(0, 2, 6), 1);
    }

    static void promise12_whatStays() {
        PageHold x = Checks.busy();
        x.tick(2);
        long[] before = new long[12];
        for (int w = 5; w < 11; w++) before[w] = x.told(w);
        long[] sizes = new long[12];
        for (int f = 0; f < 12; f++) sizes[f] = x.size(f);
        String blocks = blocks(x);
        x.crash();
        for (int w = 5; w < 11; w++) Checks.due("told " + w, x.told(w), before[w]);
        for (int f = 0; f < 12; f++) Checks.due("size " + f, x.size(f), sizes[f]);
        Checks.dueSame("blocks", blocks, blocks(x));
        Checks.due("there was a record", before[10] > 0, true);
        Checks.due("block 0 fails still", x.fail(0, true), false);
        Checks.due("block 1 does not", x.fail(1, false), false);
    }

    private static String blocks(PageHold x) {
        StringBuilder all = new StringBuilder();
        for (String line : Checks.traces(x).split("\n")) {
            if (line.matches("(disk|run) .*|page \\d+ \\d+ 1 .*")) all.append(line).append('\n');
        }
        return all.toString();
    }

    static void promise12_shadowsGoSoAPageComesToInactive() {
        PageHold x = Checks.holes(4, 8, 4);
        Checks.touch(x, 0, 0);
        x.drop();
        x.crash();
        Checks.due("shadows", x.told(4), 0);
        Checks.due("EVICTED stays", x.told(5), 1);
        Checks.touch(x, 0, 0);
        Checks.due("inactive", x.page(0, 0, 7), 0);
        x.drop();
        Checks.due("and its next shadow is 2", x.page(0, 0, 3), 2);
    }

    static void promise12_whatWasNotWrittenIsAsTheDiskHasIt() {
        PageHold x = new PageHold(8, 8);
        x.fill(0, 0, 128, 1);
        x.sync(0);
        x.fill(0, 0, 192, 99);
        x.crash();
        Checks.due("size", x.size(0), 192);
        x.read(0, 0, 192);
        Checks.due("page 0", x.hand(1), 4);
        Checks.due("page 1", x.hand(64), (1 + 3 * 64) & 255);
        Checks.due("page 2 has no block", x.hand(128), 0);
    }

    static void promise12_windowAndNextAsAtFirst() {
        PageHold x = Checks.holes(16, 8, 16);
        x.read(0, 0, 1);
        x.read(0, 128, 1);
        Checks.due("window before", x.tree(0, 3), 4);
        x.crash();
        x.read(0, 0, 1);
        Checks.due("page 0 is NEXT, the window was 1", x.tree(0, 3), 2);
    }

    // ---- promise 13

    static void promise13_noBlock() {
        PageHold x = Checks.busy();
        for (int b : new int[] {-1, MIN, 16, 17, MAX}) {
            Checks.dueRefused("fail " + b, x, 0, h -> h.fail(b, true) ? 1 : 0);
            Checks.dueRefused("heal " + b, x, 0, h -> h.fail(b, false) ? 1 : 0);
        }
    }

    static void promise13_firstAndLastBlock() {
        PageHold x = new PageHold(4, 8);
        for (int b : new int[] {0, 7}) {
            Checks.due("does not fail", x.fail(b, false), false);
            Checks.due("fails now", x.fail(b, true), true);
            Checks.due("failed already", x.fail(b, true), false);
            Checks.due("no more", x.fail(b, false), true);
            Checks.due("not before either", x.fail(b, false), false);
        }
    }

    static void promise13_oneBlockAlone() {
        PageHold x = new PageHold(16, 8);
        x.fail(1, true);
        x.fill(0, 0, 192, 1);
        Checks.due("sync", x.sync(0), PageHold.DEFECT);
        Checks.due("two were written", x.told(7), 2);
        x.fail(1, false);
        Checks.due("from now on not", x.sync(0), 1);
    }

    static void promise13_blockGivenBackFailsStill() {
        PageHold x = new PageHold(4, 8);
        x.fill(0, 0, 64, 1);
        x.sync(0);
        x.fail(0, true);
        x.punch(0, 0, 1);
        x.write(1, 0, 1, 1);
        Checks.due("sync", x.sync(1), PageHold.DEFECT);
        Checks.due("its block", x.page(1, 0, 1), 0);
        x.crash();
        x.truncate(1, 64);
        Checks.due("read", x.read(1, 0, 64), 64);
        Checks.due("nothing was written: the block's old bytes", x.hand(1), 4);
    }

    static void promise13_failingChangesNoBytesAndNoReads() {
        PageHold x = new PageHold(4, 8);
        x.fill(0, 0, 64, 1);
        x.sync(0);
        x.drop();
        x.fail(0, true);
        Checks.due("disk", x.disk(0, 1), 4);
        Checks.due("read", x.read(0, 0, 64), 64);
        Checks.due("its byte", x.hand(1), 4);
        Checks.due("a READ", x.told(6), 1);
    }

    // ---- promise 14

    static void promise14_noPageOfAFile() {
        PageHold x = Checks.busy();
        for (int f : NO_FILES) {
            Checks.dueRefused("pin file " + f, x, 0, h -> h.pin(f, 0, true) ? 1 : 0);
            Checks.dueRefused("unpin file " + f, x, 0, h -> h.pin(f, 0, false) ? 1 : 0);
        }
        for (int p : new int[] {-1, MIN, 256, MAX}) {
            Checks.dueRefused("pin page " + p, x, 0, h -> h.pin(2, p, true) ? 1 : 0);
            Checks.dueRefused("unpin page " + p, x, 0, h -> h.pin(2, p, false) ? 1 : 0);
        }
    }

    static void promise14_pageWithoutAByteOfTheFile() {
        PageHold x = new PageHold(8, 8);
        Checks.dueRefused("empty file", x, 0, h -> h.pin(0, 0, true) ? 1 : 0);
        x.truncate(0, 64);
        Checks.dueRefused("page 1 of 64 bytes", x, 0, h -> h.pin(0, 1, true) ? 1 : 0);
        x.truncate(0, 65);
        x.pin(0, 1, true);
        Checks.due("page 1 of 65 bytes", x.page(0, 1, 6), 1);
        x.truncate(1, 1);
        x.pin(1, 0, true);
        Checks.due("page 0 of one byte", x.page(1, 0, 6), 1);
        x.truncate(2, 16384);
        x.pin(2, 255, true);
        Checks.due("page 255 of 16384 bytes", x.page(2, 255, 6), 1);
    }

    static void promise14_halfTheFramesCutOff() {
        for (int frames : new int[] {4, 5, 6, 7, 64}) {
            PageHold x = Checks.holes(frames, 8, 40);
            for (int p = 0; p < frames / 2; p++) {
                Checks.due("was not", x.pin(0, p, true), false);
                Checks.due("is", x.page(0, p, 6), 1);
            }
            Checks.dueRefused("one more of " + frames, x, 0, h -> h.pin(0, 39, true) ? 1 : 0);
            Checks.due("pinned", x.told(3), frames / 2);
            Checks.due("take one off", x.pin(0, 0, false), true);
            x.pin(0, 39, true);
            Checks.due("then there is one", x.page(0, 39, 6), 1);
        }
    }

    static void promise14_pinnedOneAgainWhenHalfAre() {
        PageHold x = Checks.holes(4, 8, 4);
        x.pin(0, 0, true);
        x.pin(0, 1, true);
        Checks.due("it was", x.pin(0, 0, true), true);
        Checks.due("touched", x.page(0, 0, 5), 1);
        Checks.due("pinned", x.told(3), 2);
        Checks.due("it was", x.pin(0, 0, true), true);
        Checks.due("active", x.page(0, 0, 7), 1);
    }

    static void promise14_oneThatIsInWhenHalfAre() {
        PageHold x = Checks.holes(4, 8, 4);
        Checks.touch(x, 0, 2);
        x.pin(0, 0, true);
        x.pin(0, 1, true);
        Checks.dueRefused("not touched", x, 0, h -> h.pin(0, 2, true) ? 1 : 0);
    }

    static void promise14_toTakeItOffDoesNotTouch() {
        PageHold x = Checks.holes(4, 8, 4);
        x.pin(0, 0, true);
        Checks.due("was", x.pin(0, 0, false), true);
        Checks.due("not touched", x.page(0, 0, 5), 0);
        Checks.dueRefused("was not", x, 0, h -> h.pin(0, 0, false) ? 1 : 0);
        Checks.dueRefused("one that is out", x, 0, h -> h.pin(0, 1, false) ? 1 : 0);
        Checks.dueRefused("one without a byte", x, 0, h -> h.pin(0, 9, false) ? 1 : 0);
    }

    static void promise14_nothingComesAhead() {
        PageHold x = Checks.holes(8, 8, 8);
        x.pin(0, 0, true);
        Checks.due("in", x.told(0), 1);
        Checks.due("window", x.tree(0, 3), 1);
        Checks.due("next", x.tree(0, 4), 0);
    }

    static void promise14_bringsInFromTheDisk() {
        PageHold x = new PageHold(4, 8);
        x.fill(0, 0, 64, 1);
        x.sync(0);
        x.drop();
        Checks.due("pin", x.pin(0, 0, true), false);
        Checks.dueRecord("a READ", x, 0, 0, 1);
        Checks.due("its shadow goes", x.told(4), 0);
    }

    static void promise14_noFrame() {
        PageHold x = Checks.stuck();
        Checks.due("pin", x.pin(1, 0, true), false);
        Checks.due("not pinned", x.page(1, 0, 6), 0);
        Checks.due("out", x.page(1, 0, 0), PageHold.NONE);
        Checks.due("none is", x.told(3), 0);
    }
}
