/** The boundary cases of the document's terms, on which the promises rest, a test for each sentence that names one. */
public final class BoundariesTermsTest {
    private static final int NONE = PageHold.NONE;

    public static void main(String[] args) {
        Checks.run(BoundariesTermsTest.class);
    }

    // ---- terms 1: files, pages, blocks, frames, shadows and trees

    static void terms1_pageOfAByte() {
        PageHold x = new PageHold(8, 8);
        x.write(0, 63, 1, 1);
        Checks.dueRow("63", p -> x.page(0, p, 0), 0, NONE);
        x.write(0, 64, 1, 1);
        Checks.dueRow("64", p -> x.page(0, p, 0), 0, 1, NONE);
        x.write(0, 16320, 1, 1);
        Checks.due("16320", x.page(0, 255, 0), 2);
        x.write(0, 16319, 1, 1);
        Checks.due("16319", x.page(0, 254, 0), 3);
    }

    static void terms1_diskIs0AtFirst() {
        PageHold x = new PageHold(4, 512);
        for (int b = 0; b < 512; b++) for (int i = 0; i < 64; i++) Checks.due("byte", x.disk(b, i), 0);
    }

    static void terms1_timeIs0AtFirst() {
        PageHold x = new PageHold(4, 8);
        x.write(0, 0, 1, 1);
        Checks.due("since", x.page(0, 0, 2), 0);
        Checks.due("time", x.told(9), 0);
    }

    static void terms1_shadowCountsItsOwn() {
        PageHold x = Checks.holes(4, 8, 16);
        Checks.touch(x, 0, 0, 1, 2, 3);
        Checks.due("none yet", x.told(4), 0);
        Checks.touch(x, 0, 4);
        Checks.due("the first is 1", x.page(0, 0, 3), 1);
        Checks.due("evicted", x.told(5), 1);
        Checks.touch(x, 0, 5);
        Checks.due("the second is 2", x.page(0, 1, 3), 2);
    }

    static void terms1_asManyShadowsAsFrames() {
        PageHold x = Checks.holes(4, 8, 16);
        Checks.touch(x, 0, 0, 1, 2, 3, 4, 5, 6, 7);
        Checks.due("four", x.told(4), 4);
        Checks.dueRow("all there", p -> x.page(0, p, 3), 1, 2, 3, 4, NONE);
        Checks.touch(x, 0, 8);
        Checks.due("four still", x.told(4), 4);
        Checks.dueRow("the least went", p -> x.page(0, p, 3), NONE, 2, 3, 4, 5, NONE);
    }

    static void terms1_shadowOfThePageThatComesCountsTillItIsIn() {
        PageHold x = Checks.holes(4, 8, 16);
        Checks.touch(x, 0, 0, 1, 2, 3, 4, 5, 6, 7);
        Checks.touch(x, 0, 2);
        // 4 went for it as the fifth, so the least (of 0) went; then 2's own.
        Checks.dueRow("shadows", p -> x.page(0, p, 3), NONE, 2, NONE, 4, 5, NONE);
        Checks.due("three", x.told(4), 3);
    }

    static void terms1_leastShadowMayBeThatOfThePageThatComes() {
        PageHold x = Checks.holes(4, 8, 16);
        Checks.touch(x, 0, 0, 1, 2, 3, 4, 5, 6, 7);
        Checks.touch(x, 0, 0);
        Checks.dueRow("shadows", p -> x.page(0, p, 3), NONE, 2, 3, 4, 5, NONE);
        Checks.due("inactive", x.page(0, 0, 7), 0);
    }

    static void terms1_heightOfTheTree() {
        int[][] heights = {{0, 1}, {3, 1}, {4, 2}, {15, 2}, {16, 3}, {63, 3}, {64, 4}, {255, 4}};
        for (int[] h : heights) {
            PageHold x = Checks.holes(4, 8, 256);
            Checks.due("without entries", x.tree(0, 0), 0);
            Checks.touch(x, 0, h[0]);
            Checks.due("height with " + h[0], x.tree(0, 0), h[1]);
            Checks.due("nodes with it alone", x.tree(0, 1), h[1]);
            Checks.due("entries", x.tree(0, 2), 1);
        }
    }

    static void terms1_nodesOfTheTree() {
        PageHold x = Checks.holes(64, 8, 256);
        int[][] nodes = {{0, 1}, {3, 1}, {4, 3}, {7, 3}, {15, 4}, {16, 7}, {17, 7}, {63, 9}, {64, 13}, {67, 13}, {255, 16}};
        for (int[] n : nodes) {
            Checks.touch(x, 0, n[0]);
            Checks.due("nodes with " + n[0], x.tree(0, 1), n[1]);
        }
        Checks.due("entries", x.tree(0, 2), nodes.length);
    }

    static void terms1_fullTree() {
        PageHold x = Checks.holes(64, 8, 64);
        for (int p = 0; p < 64; p++) Checks.touch(x, 0, p);
        Checks.dueRow("tree", w -> x.tree(0, w), 3, 16 + 4 + 1, 64);
    }

    static void terms1_entriesAreInOrHaveAShadow() {
        PageHold x = new PageHold(4, 16);
        x.fill(0, 0, 64 * 10, 1);
        x.syncAll();
        Checks.due("four in, four with a shadow; two have a block alone", x.tree(0, 2), 8);
        Checks.due("the least of them", x.next(0, 0, 4), 2);
        Checks.due("block of 0", x.page(0, 0, 1), 0);
        x.crash();
        Checks.dueRow("blocks are no entries", w -> x.tree(0, w), 0, 0, 0);
    }

    static void terms1_treeHasNoPageOfTheFilesBesideIt() {
        PageHold x = new PageHold(8, 8);
        for (int f = 4; f < 7; f++) x.truncate(f, 16384);
        Checks.touch(x, 4, 255);
        Checks.touch(x, 6, 0);
        Checks.dueRow("without entries", w -> x.tree(5, w), 0, 0, 0);
        Checks.touch(x, 5, 5);
        Checks.dueRow("with one", w -> x.tree(5, w), 2, 2, 1);
        Checks.dueRow("before it", w -> x.tree(4, w), 4, 4, 1);
        Checks.dueRow("behind it", w -> x.tree(6, w), 1, 1, 1);
    }

    static void terms1_blocksThatNoPageHasAreFree() {
        PageHold x = new PageHold(8, 8);
        x.fill(0, 0, 192, 1);
        x.sync(0);
        x.punch(0, 1, 1);
        x.write(1, 0, 1, 1);
        x.write(1, 64, 1, 1);
        x.sync(1);
        Checks.due("the least", x.page(1, 0, 1), 1);
        Checks.due("the next", x.page(1, 1, 1), 3);
    }

    // ---- terms 2: touching, and what comes ahead

    static void terms2_seenAgain() {
        PageHold x = Checks.holes(4, 8, 4);
        Checks.touch(x, 0, 0, 1);
        Checks.touch(x, 0, 0);
        Checks.due("once: referenced", x.page(0, 0, 5), 1);
        Checks.dueList("it does not move", x, false, 1, 0);
        Checks.touch(x, 0, 0);
        Checks.due("twice: not any more", x.page(0, 0, 5), 0);
        Checks.dueList("active", x, true, 0);
        Checks.dueList("not inactive", x, false, 1);
        Checks.touch(x, 0, 1, 1);
        Checks.dueList("to the front", x, true, 1, 0);
        Checks.touch(x, 0, 0);
        Checks.due("active: referenced", x.page(0, 0, 5), 1);
        Checks.touch(x, 0, 0, 0);
        Checks.due("stays so", x.page(0, 0, 5), 1);
        Checks.dueList("does not move", x, true, 1, 0);
    }

    static void terms2_leastFreeFrame() {
        PageHold x = Checks.holes(4, 8, 16);
        Checks.touch(x, 0, 0, 1, 2, 3);
        x.punch(0, 3, 1);
        x.punch(0, 1, 1);
        Checks.touch(x, 0, 8, 9);
        Checks.due("the least", x.page(0, 8, 0), 1);
        Checks.due("the next", x.page(0, 9, 0), 3);
        Checks.due("none went", x.told(5), 0);
        Checks.touch(x, 0, 10);
        Checks.due("that of the one that went", x.page(0, 10, 0), 0);
        Checks.due("one went", x.told(5), 1);
    }

    static void terms2_bytes0WithoutABlock() {
        PageHold x = new PageHold(4, 8);
        x.fill(0, 0, 256, 1);
        x.syncAll();
        x.truncate(1, 256);
        Checks.due("read", x.read(1, 0, 256), 256);
        for (int i = 0; i < 256; i++) Checks.due("byte " + i, x.hand(i), 0);
        Checks.due("no READ", x.told(6), 0);
    }

    static void terms2_bytes0InItsOwnFrameAlone() {
        for (int hole = 0; hole < 4; hole++) {
            PageHold x = new PageHold(4, 8);
            Checks.fillPages(x, 0, 4);
            x.punch(0, hole, 1);
            Checks.touch(x, 0, hole);
            Checks.due("the frame that was free", x.page(0, hole, 0), hole);
            Checks.due("read", x.read(0, 0, 256), 256);
            for (int i = 0; i < 256; i++) {
                Checks.due("hole " + hole + ", byte " + i, x.hand(i), i / 64 == hole ? 0 : Checks.filled(i));
            }
        }
    }

    static void terms2_bytesOfItsBlock() {
        PageHold x = new PageHold(4, 16);
        Checks.fillPages(x, 0, 8);
        x.syncAll();
        x.crash();
        Checks.due("read", x.read(0, 64, 256), 256);
        for (int i = 0; i < 256; i++) Checks.due("byte " + i, x.hand(i), Checks.filled(64 + i));
        // 1 alone, 2 with 3 ahead, 4 with 5, 6 and 7 ahead.
        Checks.due("READS", x.told(6), 7);
    }

    /** ACTIVE has 1 and 0, INACTIVE 6 and 5; 2, 3 and 4 went as 1, 2 and 3. */
    private static PageHold threeWent() {
        PageHold x = Checks.holes(4, 8, 16);
        Checks.activate(x, 0, 0, 1);
        Checks.touch(x, 0, 2, 3, 4, 5, 6);
        return x;
    }

    static void terms2_shadowAsOldAsActiveIsLong() {
        PageHold x = threeWent();
        Checks.touch(x, 0, 3);
        // 5 went for it as the fourth: 4 less 2 is 2, as many as there are on ACTIVE.
        Checks.dueList("active", x, true, 3, 1, 0);
        Checks.dueList("inactive", x, false, 6);
        Checks.due("its shadow goes", x.page(0, 3, 3), NONE);
        Checks.due("not referenced", x.page(0, 3, 5), 0);
    }

    static void terms2_shadowOneOlder() {
        PageHold x = threeWent();
        Checks.touch(x, 0, 2);
        // 4 less 1 is 3, with 2 on ACTIVE.
        Checks.dueList("active", x, true, 1, 0);
        Checks.dueList("inactive", x, false, 2, 6);
        Checks.due("its shadow goes", x.page(0, 2, 3), NONE);
    }

    static void terms2_shadowWithNoneOnActive() {
        PageHold x = Checks.holes(4, 8, 4);
        Checks.touch(x, 0, 0, 1);
        x.drop();
        Checks.touch(x, 0, 0);
        Checks.due("2 less 1 is more than 0", x.page(0, 0, 7), 0);
        Checks.touch(x, 0, 1);
        Checks.due("2 less 2 is not", x.page(0, 1, 7), 1);
    }

    static void terms2_withoutAShadowToInactive() {
        PageHold x = Checks.holes(4, 8, 16);
        Checks.activate(x, 0, 0, 1, 2);
        Checks.touch(x, 0, 3);
        Checks.due("with three active and none EVICTED", x.page(0, 3, 7), 0);
    }

    static void terms2_activeIsCountedBehindTheTakingBack() {
        PageHold x = Checks.holes(4, 8, 16);
        Checks.activate(x, 0, 0, 1, 2);
        Checks.touch(x, 0, 3, 4);
        // 3 went as 1; ACTIVE 2 1, INACTIVE 4 0.
        Checks.touch(x, 0, 2, 4, 0);
        Checks.touch(x, 0, 3);
        // 0 and 4 are REFERENCED and go to ACTIVE, where then 1 is the last: 2 less 1, 3 on ACTIVE.
        Checks.dueList("active", x, true, 3, 4, 0, 2);
        Checks.dueList("inactive", x, false);
        Checks.due("1 went", x.page(0, 1, 3), 2);
    }

    static void terms2_neitherDirtyNorReferencedNorPinned() {
        PageHold x = new PageHold(4, 8);
        x.write(0, 0, 1, 1);
        x.pin(0, 0, true);
        x.punch(0, 0, 1);
        Checks.touch(x, 0, 0);
        Checks.dueRow("behind a hole", w -> x.page(0, 0, w), 0, -1, -1, -1, 0, 0, 0, 0);
        Checks.touch(x, 0, 0);
        x.drop();
        Checks.touch(x, 0, 0);
        Checks.due("behind going while REFERENCED", x.page(0, 0, 5), 0);
        x.write(0, 0, 1, 1);
        x.pin(0, 0, true);
        x.crash();
        Checks.touch(x, 0, 0);
        Checks.dueRow("behind a crash", w -> x.page(0, 0, w), 0, -1, -1, -1, 0, 0, 0, 0);
    }

    static void terms2_windowDoublesTo8AtMost() {
        PageHold x = Checks.holes(64, 8, 64);
        int[][] steps = {{0, 2, 2}, {2, 4, 6}, {6, 8, 14}, {14, 8, 22}, {22, 8, 30}};
        Checks.due("at first", x.tree(0, 3), 1);
        for (int[] s : steps) {
            x.read(0, 64 * s[0], 1);
            Checks.due("window at " + s[0], x.tree(0, 3), s[1]);
            Checks.due("next at " + s[0], x.tree(0, 4), s[2]);
            Checks.due("in at " + s[0], x.told(0), s[2]);
        }
    }

    static void terms2_anotherPageMakesTheWindow1() {
        for (int p : new int[] {13, 15, 40}) {
            PageHold x = Checks.holes(64, 8, 64);
            for (int at : new int[] {0, 2, 6}) x.read(0, 64 * at, 1);
            x.punch(0, 13, 1);
            int in = x.told(0);
            x.read(0, 64 * p, 1);
            Checks.due("window at " + p, x.tree(0, 3), 1);
            Checks.due("next at " + p, x.tree(0, 4), p + 1);
            Checks.due("none comes ahead", x.told(0), in + 1);
        }
    }

    static void terms2_firstReadNotOfPage0() {
        PageHold x = Checks.holes(8, 8, 16);
        x.read(0, 64, 1);
        Checks.due("window", x.tree(0, 3), 1);
        Checks.due("next", x.tree(0, 4), 2);
        Checks.due("in", x.told(0), 1);
        x.read(0, 128, 1);
        Checks.due("window then", x.tree(0, 3), 2);
        Checks.due("next then", x.tree(0, 4), 4);
    }

    static void terms2_eachFileHasItsOwn() {
        PageHold x = Checks.holes(32, 8, 16);
        x.truncate(1, 1024);
        x.read(0, 0, 1);
        x.read(1, 0, 1);
        x.read(0, 128, 1);
        Checks.due("window of 0", x.tree(0, 3), 4);
        Checks.due("window of 1", x.tree(1, 3), 2);
        Checks.due("next of 1", x.tree(1, 4), 2);
    }

    static void terms2_onlyPagesThatHaveAByte() {
        int[][] sizes = {{256, 4}, {257, 5}, {320, 5}, {321, 6}, {384, 6}, {385, 6}};
        for (int[] s : sizes) {
            PageHold x = new PageHold(16, 8);
            x.truncate(0, s[0]);
            x.read(0, 0, 1);
            x.read(0, 128, 1);
            Checks.due("in with " + s[0], x.told(0), s[1]);
            Checks.due("next with " + s[0], x.tree(0, 4), s[1]);
            Checks.due("window with " + s[0], x.tree(0, 3), 4);
        }
    }

    static void terms2_noneBehindTheFirst() {
        PageHold x = Checks.holes(8, 8, 1);
        x.read(0, 0, 1);
        Checks.due("window", x.tree(0, 3), 2);
        Checks.due("next is behind it", x.tree(0, 4), 1);
        Checks.due("in", x.told(0), 1);
        PageHold y = Checks.holes(8, 8, 256);
        y.read(0, 16383, 1);
        Checks.due("behind the last page", y.tree(0, 4), 256);
    }

    static void terms2_oneThatIsInIsGoneThroughButNotTouched() {
        PageHold x = Checks.holes(16, 8, 16);
        Checks.touch(x, 0, 3, 5);
        x.read(0, 0, 1);
        x.read(0, 128, 1);
        // Behind 2 are 3 (in), 4 (out) and 5 (in).
        Checks.due("next", x.tree(0, 4), 6);
        Checks.due("3", x.page(0, 3, 5), 0);
        Checks.due("5", x.page(0, 5, 5), 0);
        Checks.dueList("inactive", x, false, 4, 2, 1, 0, 5, 3);
    }

    static void terms2_allBehindAreIn() {
        PageHold x = Checks.holes(16, 8, 16);
        Checks.touch(x, 0, 1);
        x.read(0, 0, 1);
        Checks.due("next", x.tree(0, 4), 2);
        Checks.due("in", x.told(0), 2);
    }

    static void terms2_oneThatIsInMakesNoWindow() {
        PageHold x = Checks.holes(16, 8, 16);
        x.read(0, 0, 1);
        Checks.touch(x, 0, 2);
        x.read(0, 64, 128);
        Checks.due("window", x.tree(0, 3), 2);
        Checks.due("next", x.tree(0, 4), 2);
        x.read(0, 192, 1);
        Checks.due("3 is another one", x.tree(0, 3), 1);
    }

    static void terms2_nothingButReadMakesAWindow() {
        PageHold x = Checks.holes(16, 8, 16);
        x.read(0, 0, 1);
        x.write(0, 64 * 9, 1, 1);
        x.pin(0, 12, true);
        x.truncate(0, 64 * 15);
        Checks.due("window", x.tree(0, 3), 2);
        Checks.due("next", x.tree(0, 4), 2);
        x.read(0, 128, 1);
        Checks.due("window then", x.tree(0, 3), 4);
    }

    static void terms2_othersGoForWhatComesAheadAlsoTheFirst() {
        PageHold x = Checks.holes(4, 8, 32);
        x.read(0, 0, 1);
        x.read(0, 128, 1);
        Checks.dueList("2 with 3, 4 and 5: 0 and 1 went", x, false, 5, 4, 3, 2);
        x.read(0, 64 * 6, 1);
        Checks.due("window", x.tree(0, 3), 8);
        Checks.dueList("6 itself went", x, false, 13, 12, 11, 10);
        Checks.due("next", x.tree(0, 4), 14);
        Checks.due("evicted", x.told(5), 10);
    }

    static void terms2_oneThatComesAheadMayComeToActive() {
        PageHold x = Checks.holes(8, 8, 16);
        Checks.activate(x, 0, 9);
        Checks.touch(x, 0, 0, 1);
        x.pin(0, 9, true);
        x.drop();
        x.read(0, 0, 1);
        // 0 and 1 went as 1 and 2: 2 less 1 and 2 less 2 are not more than the one on ACTIVE.
        Checks.dueList("active", x, true, 1, 0, 9);
        Checks.due("shadows", x.told(4), 0);
    }

    static void terms2_oneThatCameAheadIsSeenAgainByTheSameRead() {
        PageHold x = Checks.holes(16, 8, 16);
        x.read(0, 0, 192);
        // 0 with 1 ahead, 1 seen again, 2 (it is NEXT) with 3, 4 and 5 ahead.
        Checks.dueRow("referenced", p -> x.page(0, p, 5), 0, 1, 0, 0, 0, 0);
        Checks.due("window", x.tree(0, 3), 4);
        Checks.due("next", x.tree(0, 4), 6);
    }

    static void terms2_framesEnoughForWhatComesAheadThoughOthersCanNotGo() {
        PageHold x = Checks.stuck();
        x.fail(2, false);
        // Page 0 of file 0 is written and goes; then each page goes for the one ahead of it.
        Checks.due("read", x.read(1, 0, 128), 128);
        Checks.due("hand", x.hand(127), (200 + 3 * 127) & 255);
        Checks.due("window", x.tree(1, 3), 2);
        Checks.due("next", x.tree(1, 4), 2);
        Checks.due("page 0 went for page 1", x.page(1, 0, 0), NONE);
        Checks.dueRecord("record", x, 1, 2, 1, 0, 0, 2);
    }

    // ---- terms 3: frames taken back, and what written means

    static void terms3_activeNotMoreThanInactiveDoesNotMove() {
        PageHold x = Checks.holes(4, 8, 16);
        Checks.activate(x, 0, 0, 1);
        Checks.touch(x, 0, 2, 3, 4);
        Checks.dueList("active", x, true, 1, 0);
        Checks.dueList("inactive: 2 went", x, false, 4, 3);
    }

    static void terms3_lastOfActiveToInactive() {
        PageHold x = Checks.holes(4, 8, 16);
        Checks.activate(x, 0, 0, 1, 2);
        Checks.touch(x, 0, 3, 4);
        Checks.dueList("active", x, true, 2, 1);
        Checks.dueList("inactive: 3 went", x, false, 4, 0);
    }

    static void terms3_allActive() {
        PageHold x = Checks.holes(4, 8, 16);
        Checks.activate(x, 0, 0, 1, 2, 3);
        Checks.touch(x, 0, 4);
        Checks.dueList("active", x, true, 3, 2);
        Checks.dueList("inactive: 0 went", x, false, 4, 1);
    }

    static void terms3_referencedOnActiveIsSparedOnce() {
        PageHold x = Checks.holes(4, 8, 16);
        Checks.activate(x, 0, 0, 1, 2);
        Checks.touch(x, 0, 0, 3, 4);
        Checks.dueList("0 to the front, 1 to inactive", x, true, 0, 2);
        Checks.dueList("inactive: 3 went", x, false, 4, 1);
        Checks.due("0 is so no more", x.page(0, 0, 5), 0);
    }

    static void terms3_allReferencedOnActive() {
        PageHold x = Checks.holes(4, 8, 16);
        Checks.activate(x, 0, 0, 1, 2, 3);
        Checks.touch(x, 0, 0, 1, 2, 3, 4);
        Checks.dueList("once round", x, true, 3, 2);
        Checks.dueList("inactive: 0 went", x, false, 4, 1);
        for (int p = 1; p < 4; p++) Checks.due("not referenced " + p, x.page(0, p, 5), 0);
    }

    static void terms3_allOf64ReferencedOnActive() {
        PageHold x = Checks.holes(64, 8, 65);
        for (int p = 0; p < 64; p++) Checks.touch(x, 0, p, p, p, p);
        Checks.due("active", x.told(1), 64);
        Checks.touch(x, 0, 64);
        Checks.due("active then", x.told(1), 32);
        for (int k = 0; k < 32; k++) {
            Checks.due("active " + k, x.listed(true, k), 63 - k);
            Checks.due("inactive " + k, x.listed(false, k), k == 0 ? 64 : 32 - k);
        }
        Checks.due("0 went", x.page(0, 0, 3), 1);
        Checks.due("none is referenced", x.next(0, 0, 2), NONE);
    }

    static void terms3_dirtyAndPinnedOnActiveMoveToo() {
        PageHold x = Checks.holes(4, 8, 16);
        Checks.activate(x, 0, 0, 1, 2);
        x.write(0, 0, 1, 1);
        Checks.touch(x, 0, 3);
        x.punch(0, 3, 1);
        x.pin(0, 1, true);
        Checks.touch(x, 0, 3);
        // ACTIVE 2, 1 (pinned, REFERENCED), 0 (dirty, REFERENCED).
        Checks.touch(x, 0, 4);
        Checks.dueList("2 goes, the others were spared", x, true, 1, 0);
        Checks.dueList("inactive: 3 went", x, false, 4, 2);
        Checks.due("pinned still", x.page(0, 1, 6), 1);
        Checks.due("dirty still", x.page(0, 0, 2), 0);
        Checks.due("nothing was written", x.told(7), 0);
    }

    static void terms3_pinnedGoesToTheFrontAndStaysReferenced() {
        PageHold x = Checks.holes(4, 8, 16);
        Checks.touch(x, 0, 0, 1, 2, 3);
        x.pin(0, 0, true);
        Checks.touch(x, 0, 4);
        Checks.dueList("inactive: 1 went", x, false, 4, 0, 3, 2);
        Checks.due("referenced", x.page(0, 0, 5), 1);
        Checks.dueList("none active", x, true);
    }

    static void terms3_pinnedIsNotWritten() {
        PageHold x = Checks.holes(4, 8, 16);
        x.write(0, 0, 1, 1);
        Checks.touch(x, 0, 1, 2, 3);
        x.pin(0, 0, true);
        Checks.touch(x, 0, 4);
        Checks.due("writes", x.told(7), 0);
        Checks.due("dirty", x.page(0, 0, 2), 0);
    }

    static void terms3_referencedGoesToActiveAndIsSoNoMore() {
        PageHold x = Checks.holes(4, 8, 16);
        Checks.touch(x, 0, 0, 1, 2, 3);
        Checks.touch(x, 0, 0, 1);
        Checks.touch(x, 0, 4);
        Checks.dueList("active", x, true, 1, 0);
        Checks.dueList("inactive: 2 went", x, false, 4, 3);
        Checks.dueRow("referenced", p -> x.page(0, p, 5), 0, 0);
    }

    static void terms3_referencedIsNotWritten() {
        PageHold x = Checks.holes(4, 8, 16);
        x.write(0, 0, 1, 1);
        Checks.touch(x, 0, 1, 2, 3);
        x.write(0, 0, 1, 1);
        Checks.touch(x, 0, 4);
        Checks.due("writes", x.told(7), 0);
        Checks.due("active", x.page(0, 0, 7), 1);
        Checks.due("dirty", x.page(0, 0, 2), 0);
    }

    static void terms3_dirtyIsWrittenAndGoes() {
        PageHold x = Checks.holes(4, 8, 16);
        x.write(0, 0, 77, 1);
        Checks.touch(x, 0, 1, 2, 3, 4);
        Checks.due("writes", x.told(7), 1);
        Checks.due("out", x.page(0, 0, 0), NONE);
        Checks.due("not dirty", x.told(2), 0);
        Checks.due("its block", x.page(0, 0, 1), 0);
        Checks.due("on the disk", x.disk(0, 0), 77);
        Checks.due("its shadow", x.page(0, 0, 3), 1);
    }

    static void terms3_dirtyThatFailsGoesToTheFront() {
        PageHold x = Checks.holes(4, 8, 16);
        x.fail(0, true);
        x.write(0, 0, 77, 1);
        Checks.touch(x, 0, 1, 2, 3, 4);
        Checks.dueList("inactive: 1 went", x, false, 4, 0, 3, 2);
        Checks.due("dirty since then still", x.page(0, 0, 2), 0);
        Checks.due("error", x.tree(0, 5), PageHold.DEFECT);
    }

    /** INACTIVE has 2 (dirty, it fails), 1 and 0 (pinned), ACTIVE 3; file 1 has two pages. */
    private static PageHold noneInactiveCanGo() {
        PageHold x = Checks.holes(4, 8, 16);
        x.truncate(1, 128);
        Checks.activate(x, 0, 3);
        x.pin(0, 0, true);
        x.pin(0, 1, true);
        x.fail(0, true);
        x.write(0, 128, 1, 1);
        return x;
    }

    static void terms3_twiceAsManyLooksAsFrames() {
        PageHold x = noneInactiveCanGo();
        Checks.dueList("before", x, false, 2, 1, 0);
        Checks.due("read", x.read(1, 64, 1), 1);
        // Eight looks at three pages: twice round, then 0 and 1 once more.
        Checks.dueList("behind eight looks", x, false, 257, 1, 0, 2);
        Checks.dueList("3 went", x, true);
        Checks.due("its frame", x.page(1, 1, 0), 0);
        Checks.due("its shadow", x.page(0, 3, 3), 1);
    }

    static void terms3_oneThatCanGoIsFoundBehindThoseThatCanNot() {
        PageHold x = Checks.holes(4, 8, 16);
        x.truncate(1, 128);
        x.pin(0, 0, true);
        x.pin(0, 1, true);
        x.fail(0, true);
        x.write(0, 128, 1, 1);
        x.read(0, 192, 1);
        x.read(1, 64, 1);
        Checks.dueList("the fourth look", x, false, 257, 2, 1, 0);
        Checks.due("3 went", x.page(0, 3, 3), 1);
    }

    static void terms3_withoutInactiveOnesTheLastOfActiveGoes() {
        PageHold x = Checks.holes(4, 8, 16);
        Checks.touch(x, 0, 0, 1, 2, 3);
        Checks.touch(x, 0, 0, 1, 2, 3);
        Checks.touch(x, 0, 4);
        Checks.dueList("active: 0 went", x, true, 3, 2, 1);
        Checks.dueList("inactive", x, false, 4);
    }

    static void terms3_activeGoneThroughFromItsEndNoneMoves() {
        PageHold x = Checks.holes(6, 8, 16);
        x.truncate(1, 128);
        Checks.failAll(x, true);
        x.write(0, 0, 1, 1);
        x.write(0, 64, 1, 1);
        x.write(0, 128, 1, 1);
        Checks.activate(x, 0, 3, 4, 5);
        x.pin(0, 3, true);
        Checks.touch(x, 0, 4);
        Checks.dueList("before", x, true, 5, 4, 3);
        x.read(1, 64, 1);
        // 3 is pinned; 4 is REFERENCED and goes all the same.
        Checks.dueList("active", x, true, 5, 3);
        Checks.due("3 is referenced still", x.page(0, 3, 5), 1);
        Checks.due("4 went", x.page(0, 4, 3), 1);
        // Twelve looks at three pages are four times round.
        Checks.dueList("inactive", x, false, 257, 2, 1, 0);
    }

    static void terms3_dirtyOnActiveIsWrittenNowAndGoes() {
        PageHold x = Checks.holes(4, 8, 16);
        x.truncate(1, 128);
        Checks.failAll(x, true);
        x.write(0, 0, 1, 1);
        x.write(0, 64, 1, 1);
        x.sync(0);
        Checks.activate(x, 0, 2, 3);
        x.write(0, 128, 1, 1);
        Checks.due("surplus got a block, and failed", x.page(0, 2, 1), 2);
        x.fail(2, false);
        x.read(1, 64, 1);
        Checks.due("2 was the last, was written and went", x.page(0, 2, 3), 1);
        Checks.dueRecord("record", x, 1, 2, 1);
        Checks.dueList("active", x, true, 3);
    }

    static void terms3_dirtyOnActiveThatFailsIsLeft() {
        PageHold x = Checks.holes(4, 8, 16);
        x.truncate(1, 128);
        Checks.failAll(x, true);
        x.write(0, 0, 1, 1);
        x.write(0, 64, 1, 1);
        Checks.activate(x, 0, 2, 3);
        x.write(0, 128, 1, 1);
        x.read(1, 64, 1);
        Checks.due("3 went", x.page(0, 3, 3), 1);
        Checks.dueList("active", x, true, 2);
        Checks.due("2 is dirty still", x.page(0, 2, 2), 0);
    }

    static void terms3_noFrameWhatWasDoneStays() {
        PageHold x = Checks.holes(4, 8, 16);
        x.truncate(1, 128);
        Checks.failAll(x, true);
        for (int p = 0; p < 3; p++) x.write(0, 64 * p, 1, 1);
        for (int i = 0; i < 2; i++) for (int p = 0; p < 3; p++) x.write(0, 64 * p, 1, 1);
        x.write(0, 192, 1, 1);
        x.write(0, 192, 1, 1);
        Checks.dueList("active before", x, true, 2, 1, 0);
        Checks.dueList("inactive before", x, false, 3);
        Checks.due("read", x.read(1, 64, 1), PageHold.NO_FRAME);
        // 0 to INACTIVE; 3 was REFERENCED and went to ACTIVE; 0 was looked at till the eighth look.
        Checks.dueList("active", x, true, 3, 2, 1);
        Checks.dueList("inactive", x, false, 0);
        Checks.due("3 is not referenced any more", x.page(0, 3, 5), 0);
        Checks.due("none went", x.told(5), 0);
        Checks.due("in", x.told(0), 4);
    }

    static void terms3_writtenGetsTheLeastFreeBlockThoughItFails() {
        PageHold x = new PageHold(8, 8);
        x.fail(0, true);
        x.write(0, 0, 1, 1);
        x.tick(2);
        Checks.due("sync", x.sync(0), PageHold.DEFECT);
        Checks.due("it has the block", x.page(0, 0, 1), 0);
        Checks.due("no other is taken", x.told(8), 7);
        Checks.due("dirty since", x.page(0, 0, 2), 0);
        Checks.due("no WRITE", x.told(7), 0);
        Checks.dueRecord("nor in the record", x);
        Checks.due("nothing is written", x.disk(0, 0), 0);
        Checks.due("it keeps to it", x.sync(0), PageHold.DEFECT);
        Checks.due("no other is taken", x.told(8), 7);
    }

    static void terms3_dirtyWithoutRoomGoesToTheFront() {
        PageHold x = new PageHold(4, 8);
        x.fill(0, 0, 512, 1);
        x.syncAll();
        x.crash();
        x.write(1, 0, 77, 1);
        Checks.touch(x, 0, 1, 2, 3, 4);
        Checks.dueList("inactive: 1 went", x, false, 4, 256, 3, 2);
        Checks.due("dirty", x.page(1, 0, 2), 0);
        Checks.due("error", x.tree(1, 5), PageHold.NO_ROOM);
        Checks.due("no WRITE but those before", x.told(7), 8);
        x.punch(0, 0, 1);
        Checks.touch(x, 0, 5, 6, 7);
        Checks.due("with room it goes", x.page(1, 0, 0), NONE);
        Checks.due("on the disk", x.disk(0, 0), 77);
    }

    static void terms3_bytesBehindTheSizeOfALaterPage() {
        PageHold x = new PageHold(8, 8);
        x.fill(3, 0, 192, 1);
        x.sync(3);
        x.truncate(3, 74);
        x.crash();
        x.write(3, 64, 5, 1);
        Checks.due("sync", x.sync(3), 1);
        Checks.due("first", x.disk(1, 0), 5);
        for (int i = 1; i < 64; i++) Checks.due("byte " + i, x.disk(1, i), i < 10 ? (1 + 3 * (64 + i)) & 255 : 0);
        for (int i = 0; i < 64; i++) {
            Checks.due("the block before", x.disk(0, i), (1 + 3 * i) & 255);
            Checks.due("the block behind", x.disk(2, i), (1 + 3 * (128 + i)) & 255);
        }
    }

    static void terms3_lastBlockAndLastFrame() {
        PageHold x = new PageHold(4, 8);
        Checks.fillPages(x, 0, 8);
        x.syncAll();
        for (int i = 0; i < 512; i++) Checks.due("byte " + i, x.disk(i / 64, i % 64), Checks.filled(i));
        x.drop();
        Checks.touch(x, 0, 7, 6, 5, 4);
        Checks.due("last frame", x.page(0, 4, 0), 3);
        Checks.due("read", x.read(0, 256, 256), 256);
        for (int i = 0; i < 256; i++) Checks.due("byte " + i, x.hand(i), Checks.filled(256 + i));
    }

    static void terms3_bytesBehindTheSizeStayInTheFrame() {
        PageHold x = new PageHold(8, 8);
        x.fill(0, 0, 64, 1);
        x.sync(0);
        x.truncate(0, 10);
        x.crash();
        x.write(0, 0, 5, 1);
        x.sync(0);
        x.truncate(0, 64);
        // The cut was lost with the frame; 0 is what the block has there, not the frame.
        x.read(0, 0, 64);
        Checks.due("the frame has what it had", x.hand(63), (1 + 3 * 63) & 255);
        x.drop();
        x.read(0, 0, 64);
        Checks.due("brought in anew", x.hand(63), 0);
        Checks.due("the file's own", x.hand(9), 28);
    }

    static void terms3_bytesBehindTheSizeAre0OnTheDisk() {
        PageHold x = new PageHold(8, 8);
        x.fill(0, 0, 64, 1);
        x.sync(0);
        x.truncate(0, 10);
        x.crash();
        x.write(0, 0, 5, 1);
        x.sync(0);
        Checks.due("first", x.disk(0, 0), 5);
        Checks.due("the file's last", x.disk(0, 9), 28);
        for (int i = 10; i < 64; i++) Checks.due("byte " + i, x.disk(0, i), 0);
    }

    static void terms3_wholePagesAreWrittenWhole() {
        PageHold x = new PageHold(8, 8);
        x.fill(0, 0, 129, 200);
        x.sync(0);
        for (int i = 0; i < 128; i++) Checks.due("byte " + i, x.disk(i / 64, i % 64), (200 + 3 * i) & 255);
        Checks.due("the last", x.disk(2, 0), (200 + 3 * 128) & 255);
        Checks.due("behind it", x.disk(2, 1), 0);
    }

    static void terms3_noRoomIsTheFilesError() {
        PageHold x = new PageHold(32, 8);
        x.fill(0, 0, 64 * 8, 1);
        x.sync(0);
        x.write(5, 0, 1, 1);
        x.tick(5);
        Checks.due("of 5", x.tree(5, 5), PageHold.NO_ROOM);
        Checks.due("not of 0", x.tree(0, 5), 0);
        Checks.due("dirty", x.page(5, 0, 2), 0);
        Checks.due("no block", x.page(5, 0, 1), NONE);
    }

    static void terms3_noRoomIsNotAskedOfAPageWithABlock() {
        PageHold x = new PageHold(32, 8);
        x.fill(0, 0, 64 * 8, 1);
        x.sync(0);
        x.write(0, 0, 99, 1);
        Checks.due("sync", x.sync(0), 1);
        Checks.due("on the disk", x.disk(0, 0), 99);
    }

    static void terms3_firstErrorStaysDefect() {
        PageHold x = new PageHold(32, 8);
        x.fill(0, 0, 64 * 8, 1);
        x.sync(0);
        x.fail(0, true);
        x.write(0, 0, 2, 1);
        x.write(0, 64 * 8, 1, 1);
        // By rising pages: DEFECT of 0, then NO_ROOM of 8.
        Checks.due("sync", x.sync(0), PageHold.DEFECT);
        Checks.due("told, so none", x.tree(0, 5), 0);
        x.fail(0, false);
        Checks.due("then the other", x.sync(0), PageHold.NO_ROOM);
    }

    static void terms3_firstErrorStaysNoRoom() {
        PageHold x = new PageHold(32, 8);
        x.fill(0, 64, 64 * 8, 1);
        x.sync(0);
        x.fail(7, true);
        x.write(0, 0, 1, 1);
        x.write(0, 64 * 8, 2, 1);
        Checks.due("sync", x.sync(0), PageHold.NO_ROOM);
        x.punch(0, 0, 1);
        Checks.due("then the other", x.sync(0), PageHold.DEFECT);
    }

    // ---- terms 4: what is dirty, and the record

    static void terms4_dirtyAlsoWithWhatItHad() {
        PageHold x = new PageHold(8, 8);
        x.fill(0, 0, 64, 0);
        x.sync(0);
        x.tick(2);
        x.write(0, 1, 3, 1);
        Checks.due("since", x.page(0, 0, 2), 2);
        x.tick(1);
        x.write(0, 1, 4, 1);
        Checks.due("since then still", x.page(0, 0, 2), 2);
    }

    static void terms4_halfIsNotMoreThanHalf() {
        int[][] frames = {{4, 2}, {5, 2}, {6, 3}, {7, 3}, {8, 4}, {9, 4}, {64, 32}};
        for (int[] f : frames) {
            PageHold x = new PageHold(f[0], 64);
            for (int p = 0; p < f[1]; p++) x.write(0, 64 * p, 1, 1);
            Checks.due("dirty of " + f[0], x.told(2), f[1]);
            Checks.due("writes of " + f[0], x.told(7), 0);
            x.write(0, 64 * f[1], 1, 1);
            Checks.due("left of " + f[0], x.told(2), f[0] / 4);
            Checks.due("written of " + f[0], x.told(7), f[1] + 1 - f[0] / 4);
            Checks.due("the oldest", x.next(0, 0, 1), f[1] + 1 - f[0] / 4);
        }
    }

    static void terms4_surplusIsWrittenBehindTheCallNotWithinIt() {
        PageHold x = new PageHold(8, 16);
        x.fill(0, 0, 64 * 8, 1);
        Checks.due("left", x.told(2), 2);
        Checks.dueRow("since", p -> x.page(0, p, 2), -1, -1, -1, -1, -1, -1, 0, 0);
    }

    static void terms4_surplusOldestFirst() {
        PageHold x = new PageHold(12, 16);
        x.write(7, 0, 1, 1);
        x.tick(1);
        x.write(3, 64, 1, 1);
        x.write(3, 0, 1, 1);
        x.write(2, 64, 1, 1);
        x.tick(1);
        x.write(0, 0, 1, 1);
        x.write(0, 64, 1, 1);
        Checks.due("half", x.told(7), 0);
        x.write(1, 0, 1, 1);
        Checks.due("to a quarter", x.told(2), 3);
        Checks.due("by since when", x.page(7, 0, 1), 0);
        Checks.due("by files", x.page(2, 1, 1), 1);
        Checks.due("by pages", x.page(3, 0, 1), 2);
        Checks.due("the next page", x.page(3, 1, 1), 3);
        Checks.due("the newest are left", x.page(0, 0, 1), NONE);
    }

    static void terms4_surplusThatFailsIsLeftOut() {
        PageHold x = new PageHold(8, 16);
        x.fail(0, true);
        x.fail(2, true);
        x.fill(0, 0, 64 * 5, 1);
        Checks.dueRow("since", p -> x.page(0, p, 2), 0, -1, 0, -1, -1);
        Checks.due("error", x.tree(0, 5), PageHold.DEFECT);
        PageHold y = new PageHold(8, 16);
        Checks.failAll(y, true);
        Checks.due("all fail", y.fill(0, 0, 64 * 5, 1), 320);
        Checks.due("dirty", y.told(2), 5);
        Checks.due("each was tried", y.told(8), 11);
    }

    static void terms4_surplusAlsoOfOtherFilesAndPinned() {
        PageHold x = new PageHold(4, 8);
        x.write(1, 0, 1, 1);
        x.pin(1, 0, true);
        x.write(2, 0, 1, 1);
        x.write(3, 0, 1, 1);
        Checks.due("dirty", x.told(2), 1);
        Checks.due("pinned, written and in", x.page(1, 0, 0), 0);
        Checks.due("not dirty", x.page(1, 0, 2), NONE);
    }

    /** File 0: 0 and 1 dirty and pinned, 2 and 3 dirty with blocks that fail; no frame can be taken. */
    private static PageHold pinnedAndFailing() {
        PageHold x = new PageHold(4, 8);
        Checks.failAll(x, true);
        x.fill(0, 0, 256, 1);
        x.pin(0, 0, true);
        x.pin(0, 1, true);
        x.fail(0, false);
        x.fail(1, false);
        return x;
    }

    static void terms4_noSurplusBehindACallThatWroteNothing() {
        PageHold x = pinnedAndFailing();
        Checks.due("NO_FRAME", x.write(1, 0, 1, 1), PageHold.NO_FRAME);
        Checks.due("BAD", x.write(0, 0, 1, 9), PageHold.BAD);
        Checks.due("NO_FRAME", x.fill(1, 0, 1, 1), PageHold.NO_FRAME);
        Checks.due("BAD", x.fill(0, 0, 1025, 1), PageHold.BAD);
        Checks.due("read", x.read(0, 0, 64), 64);
        Checks.due("pin", x.pin(0, 0, true), true);
        Checks.due("dirty", x.told(2), 4);
        Checks.due("writes", x.told(7), 0);
    }

    static void terms4_surplusBehindACallThatWroteAPart() {
        PageHold x = pinnedAndFailing();
        Checks.due("write", x.write(0, 252, -1, 8), 4);
        Checks.dueRow("since", p -> x.page(0, p, 2), -1, -1, 0, 0);
        PageHold y = pinnedAndFailing();
        Checks.due("fill", y.fill(0, 192, 65, 1), 64);
        Checks.dueRow("since", p -> y.page(0, p, 2), -1, -1, 0, 0);
    }

    static void terms4_recordIsOfTheLatestCallThatDidAny() {
        PageHold x = new PageHold(8, 8);
        x.fill(0, 0, 128, 1);
        x.sync(0);
        Checks.dueRecord("two writes", x, 1, 0, 2);
        x.read(0, 0, 128);
        x.tick(9);
        x.sync(0);
        x.syncAll();
        x.write(0, 0, 1, 1);
        x.read(0, 0, 0);
        x.drop();
        x.punch(0, 1, 1);
        x.truncate(0, 0);
        x.crash();
        Checks.dueRecord("still", x, 1, 0, 2);
    }

    static void terms4_eachCallHasARecordOfItsOwn() {
        PageHold x = new PageHold(16, 16);
        x.fill(0, 0, 512, 1);
        x.sync(0);
        x.drop();
        x.write(9, 0, 1, 1);
        x.write(10, 0, 1, 1);
        x.tick(4);
        x.fail(7, true);
        // Each call goes on where the one before it ended, and yet begins anew.
        x.pin(0, 0, true);
        Checks.dueRecord("pin", x, 0, 0, 1);
        x.pin(0, 1, true);
        Checks.dueRecord("pin again", x, 0, 1, 1);
        x.read(0, 128, 1);
        Checks.dueRecord("read", x, 0, 2, 1);
        x.write(0, 192, 1, 1);
        Checks.dueRecord("write", x, 0, 3, 1);
        x.fill(0, 256, 1, 1);
        Checks.dueRecord("fill", x, 0, 4, 1);
        x.truncate(0, 321);
        Checks.dueRecord("truncate", x, 0, 5, 1);
        x.sync(0);
        Checks.dueRecord("sync", x, 1, 3, 3);
        x.syncAll();
        Checks.dueRecord("syncAll", x, 1, 6, 1);
        x.fail(7, false);
        x.tick(1);
        Checks.dueRecord("tick", x, 1, 7, 1);
    }

    static void terms4_runsGoUpwardByOne() {
        PageHold x = new PageHold(16, 16);
        x.fill(0, 0, 64 * 6, 1);
        x.sync(0);
        x.truncate(1, 128);
        x.drop();
        x.read(0, 64 * 3, 64);
        Checks.dueRecord("one read", x, 0, 3, 1);
        x.read(0, 64, 128);
        Checks.dueRecord("two upward", x, 0, 1, 2);
    }

    static void terms4_runEndsWhereTheBlocksDoNotFollow() {
        PageHold x = new PageHold(16, 16);
        x.write(0, 128, 1, 1);
        x.sync(0);
        x.write(0, 64, 1, 1);
        x.sync(0);
        x.write(0, 0, 1, 1);
        x.sync(0);
        x.write(0, 192, 1, 1);
        x.sync(0);
        x.write(0, 256, 1, 1);
        x.sync(0);
        x.drop();
        x.read(0, 0, 320);
        // Pages 0 to 4 have blocks 2, 1, 0, 3, 4: downward is no run, nor is what leaves one out.
        Checks.dueRecord("record", x, 0, 2, 1, 0, 1, 1, 0, 0, 1, 0, 3, 2);
    }

    static void terms4_readAndWriteAreNotOneRun() {
        PageHold x = new PageHold(4, 16);
        x.fill(0, 0, 128, 1);
        x.sync(0);
        x.fill(1, 0, 192, 1);
        x.sync(1);
        x.drop();
        // Blocks 0 to 4; page 0 of file 1 (block 2) is dirty and the next to go.
        x.write(1, 0, 5, 1);
        x.truncate(5, 192);
        Checks.touch(x, 5, 0, 1, 2);
        Checks.touch(x, 1, 1);
        Checks.dueRecord("write 2, then read 3", x, 1, 2, 1, 0, 3, 1);
    }

    static void terms4_blockReadAgainIsAnotherRun() {
        PageHold x = new PageHold(4, 16);
        Checks.fillPages(x, 0, 16);
        x.syncAll();
        x.crash();
        x.read(0, 0, 64);
        x.read(0, 128, 64);
        Checks.due("read", x.read(0, 64 * 6, 128), 128);
        // 6 with 7 to 13 ahead; with four frames 7 went again, and is no more NEXT.
        Checks.dueRecord("record", x, 0, 6, 8, 0, 7, 1);
        Checks.due("window", x.tree(0, 3), 1);
        Checks.due("next", x.tree(0, 4), 8);
        for (int i = 0; i < 128; i++) Checks.due("byte " + i, x.hand(i), Checks.filled(64 * 6 + i));
    }

    static void terms4_aRunLaterInTheSameCallIsAnother() {
        PageHold x = new PageHold(4, 16);
        x.fill(0, 0, 64 * 8, 1);
        x.syncAll();
        Checks.dueRecord("what the surplus left", x, 1, 7, 1);
        x.crash();
        for (int p = 0; p < 2; p++) x.write(0, 64 * p, 9, 1);
        x.truncate(5, 128);
        Checks.touch(x, 5, 0, 1);
        x.read(0, 64 * 4, 64 * 2);
        // 4 for 0, then 5 with 6 ahead: write 0, read 4, write 1, read 5 and 6.
        Checks.dueRecord("record", x, 1, 0, 1, 0, 4, 1, 1, 1, 1, 0, 5, 2);
    }

    // ---- refusals

    static void terms5_constants() {
        Checks.due("NONE", PageHold.NONE, -1);
        Checks.due("BAD", PageHold.BAD, -2);
        Checks.due("NO_FRAME", PageHold.NO_FRAME, -3);
        Checks.due("NO_ROOM", PageHold.NO_ROOM, -4);
        Checks.due("DEFECT", PageHold.DEFECT, -5);
    }

    static void terms5_badBeforeNoFrame() {
        PageHold x = Checks.stuck();
        Checks.dueRefused("read", x, PageHold.BAD, h -> h.read(1, 0, 1025));
        Checks.dueRefused("write", x, PageHold.BAD, h -> h.write(2, 16377, 0, 8));
        Checks.dueRefused("fill", x, PageHold.BAD, h -> h.fill(2, -1, 1, 0));
        Checks.dueRefused("truncate", x, PageHold.BAD, h -> h.truncate(1, -1));
    }

    static void terms5_noFrameChangesNothingWhereNothingMoves() {
        PageHold x = Checks.stuck();
        // Eight looks at four pages that can not go are twice round.
        Checks.dueRefused("read", x, PageHold.NO_FRAME, h -> h.read(1, 0, 1));
        Checks.dueRefused("write", x, PageHold.NO_FRAME, h -> h.write(1, 0, 1, 1));
        Checks.dueRefused("fill", x, PageHold.NO_FRAME, h -> h.fill(1, 0, 1, 1));
        Checks.dueRefused("pin", x, 0, h -> h.pin(1, 0, true) ? 1 : 0);
    }
}
