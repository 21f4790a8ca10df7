/** The boundary cases of promises 1 to 7, a test for each sentence that names one. */
public final class BoundariesBytesTest {
    private static final int MIN = Integer.MIN_VALUE;
    private static final int MAX = Integer.MAX_VALUE;
    private static final int[] NO_FILES = {-1, 12, MIN, MAX};

    public static void main(String[] args) {
        Checks.run(BoundariesBytesTest.class);
    }

    /** How many frames an object has, by how many pages can be in at once. */
    private static int framesOf(PageHold x) {
        x.truncate(0, 16384);
        for (int p = 0; p < 66; p++) Checks.touch(x, 0, p);
        return x.told(0);
    }

    private static int handAt(PageHold x, int file, int at) {
        x.read(file, at, 1);
        return x.hand(0);
    }

    // ---- promise 1

    static void promise01_fewestAndMostFrames() {
        Checks.due("4", framesOf(new PageHold(4, 8)), 4);
        Checks.due("5", framesOf(new PageHold(5, 8)), 5);
        Checks.due("63", framesOf(new PageHold(63, 8)), 63);
        Checks.due("64", framesOf(new PageHold(64, 8)), 64);
    }

    static void promise01_tooFewFramesAre16() {
        for (int n : new int[] {3, 0, -1, MIN}) Checks.due("frames " + n, framesOf(new PageHold(n, 8)), 16);
    }

    static void promise01_tooManyFramesAre16() {
        for (int n : new int[] {65, 128, MAX}) Checks.due("frames " + n, framesOf(new PageHold(n, 8)), 16);
    }

    private static void dueBlocks(PageHold x, int want) {
        Checks.due("free blocks", x.told(8), want);
        Checks.due("the last block", x.disk(want - 1, 63), 0);
        Checks.due("the last block can fail", x.fail(want - 1, true), true);
        Checks.due("no block behind it", x.disk(want, 0), PageHold.BAD);
        Checks.due("none that can fail", x.fail(want, true), false);
    }

    static void promise01_fewestAndMostBlocks() {
        for (int n : new int[] {8, 9, 511, 512}) dueBlocks(new PageHold(4, n), n);
    }

    static void promise01_tooFewBlocksAre128() {
        for (int n : new int[] {7, 0, -1, MIN}) dueBlocks(new PageHold(4, n), 128);
    }

    static void promise01_tooManyBlocksAre128() {
        for (int n : new int[] {513, 1024, MAX}) dueBlocks(new PageHold(4, n), 128);
    }

    static void promise01_oneWrongNumberLeavesTheOther() {
        PageHold x = new PageHold(3, 9);
        dueBlocks(x, 9);
        Checks.due("frames", framesOf(x), 16);
        PageHold y = new PageHold(6, 513);
        dueBlocks(y, 128);
        Checks.due("frames", framesOf(y), 6);
    }

    static void promise01_emptyAtFirst() {
        PageHold x = new PageHold(4, 8);
        Checks.dueRow("told", x::told, 0, 0, 0, 0, 0, 0, 0, 0, 8, 0, 0, 0);
        Checks.dueList("active", x, true);
        Checks.dueList("inactive", x, false);
        Checks.dueRecord("record", x);
        Checks.due("hand", x.hand(0), PageHold.NONE);
        for (int f = 0; f < 12; f++) {
            int file = f;
            Checks.due("size", x.size(f), 0);
            Checks.dueRow("tree of " + f, w -> x.tree(file, w), 0, 0, 0, 1, 0, 0);
            Checks.dueRow("page of " + f, w -> x.page(file, 0, w), -1, -1, -1, -1, -1, 0, 0, 0);
        }
    }

    // ---- promise 2

    static void promise02_noSuchFile() {
        PageHold x = Checks.busy();
        for (int f : NO_FILES) Checks.dueRefused("file " + f, x, PageHold.BAD, h -> h.read(f, 0, 1));
    }

    static void promise02_atBelow0() {
        PageHold x = Checks.busy();
        for (int at : new int[] {-1, -64, MIN}) Checks.dueRefused("at " + at, x, PageHold.BAD, h -> h.read(2, at, 1));
    }

    static void promise02_amountTooSmallOrTooLarge() {
        PageHold x = Checks.busy();
        for (int n : new int[] {0, -1, MIN, 1025, MAX}) {
            Checks.dueRefused("n " + n, x, PageHold.BAD, h -> h.read(2, 0, n));
        }
    }

    static void promise02_badAlsoWhereNothingIsToRead() {
        PageHold x = Checks.busy();
        Checks.dueRefused("n 0 behind the size", x, PageHold.BAD, h -> h.read(2, 16384, 0));
        Checks.dueRefused("n 1025 of an empty file", x, PageHold.BAD, h -> h.read(7, 0, 1025));
    }

    static void promise02_leastAndMostAmount() {
        PageHold x = new PageHold(64, 64);
        x.fill(0, 0, 1024, 1);
        x.fill(0, 1024, 1024, 1);
        Checks.due("n 1", x.read(0, 5, 1), 1);
        Checks.due("its byte", x.hand(0), 16);
        Checks.due("and no other", x.hand(1), PageHold.NONE);
        Checks.due("n 1024", x.read(0, 5, 1024), 1024);
        Checks.due("byte 1023", x.hand(1023), (1 + 3 * 4) & 255);
        Checks.due("no byte 1024", x.hand(1024), PageHold.NONE);
    }

    static void promise02_emptyFileAnswers0() {
        PageHold x = new PageHold(4, 8);
        Checks.due("read", x.read(11, 0, 1024), 0);
        Checks.due("nothing in", x.told(0), 0);
        Checks.due("window", x.tree(11, 3), 1);
    }

    static void promise02_fromTheSizeOnAnswers0AndTouchesNothing() {
        PageHold x = new PageHold(4, 8);
        x.fill(0, 0, 70, 1);
        for (int at : new int[] {70, 71, 127, 128, 16383, 16384, MAX}) {
            Checks.due("read at " + at, x.read(0, at, 1024), 0);
        }
        Checks.due("page 1 is not seen again", x.page(0, 1, 5), 0);
        Checks.due("none came in", x.told(0), 2);
        Checks.due("window", x.tree(0, 3), 1);
        Checks.due("next", x.tree(0, 4), 0);
        Checks.due("the last byte", x.read(0, 69, 1024), 1);
        Checks.due("page 1 is seen again", x.page(0, 1, 5), 1);
    }

    static void promise02_answer0EmptiesTheHand() {
        PageHold x = new PageHold(4, 8);
        x.fill(0, 0, 70, 1);
        x.read(0, 0, 70);
        x.read(0, 70, 1);
        Checks.due("hand", x.hand(0), PageHold.NONE);
    }

    static void promise02_asFarAsTheSize() {
        PageHold x = new PageHold(8, 8);
        x.fill(0, 0, 128, 1);
        x.truncate(0, 400);
        x.truncate(0, 128);
        Checks.due("read", x.read(0, 100, 1024), 28);
        Checks.due("last in hand", x.hand(27), (1 + 3 * 127) & 255);
        Checks.due("no others", x.hand(28), PageHold.NONE);
        Checks.due("no page behind", x.told(0), 2);
    }

    static void promise02_onlyPagesThatHaveTheBytes() {
        PageHold x = Checks.holes(8, 8, 4);
        Checks.touch(x, 0, 0, 1, 2, 3);
        x.read(0, 64, 64);
        Checks.dueRow("64 to 127", p -> x.page(0, p, 5), 0, 1, 0, 0);
        PageHold y = Checks.holes(8, 8, 4);
        Checks.touch(y, 0, 0, 1, 2, 3);
        y.read(0, 63, 66);
        Checks.dueRow("63 to 128", p -> y.page(0, p, 5), 1, 1, 1, 0);
    }

    static void promise02_seventeenPages() {
        PageHold x = new PageHold(64, 64);
        x.fill(0, 63, 1024, 9);
        Checks.due("read", x.read(0, 63, 1024), 1024);
        Checks.due("first", x.hand(0), 9);
        Checks.due("last", x.hand(1023), (9 + 3 * 1023) & 255);
        for (int p = 0; p < 17; p++) Checks.due("page " + p, x.page(0, p, 5), 1);
    }

    static void promise02_inOrderEachWithWhatComesAhead() {
        PageHold x = Checks.holes(16, 8, 12);
        x.read(0, 64, 130);
        // 1 alone (it is not NEXT), 2 with 3 ahead, then 3 seen again.
        Checks.dueList("inactive", x, false, 3, 2, 1);
        Checks.due("3 was seen again", x.page(0, 3, 5), 1);
        Checks.due("2 was not", x.page(0, 2, 5), 0);
        Checks.due("window", x.tree(0, 3), 2);
        Checks.due("next", x.tree(0, 4), 4);
    }

    static void promise02_bytesAreTakenBeforeWhatComesAhead() {
        PageHold x = new PageHold(4, 16);
        Checks.fillPages(x, 0, 16);
        x.syncAll();
        x.drop();
        x.read(0, 0, 64);
        x.read(0, 128, 64);
        Checks.due("read", x.read(0, 64 * 6, 64), 64);
        Checks.due("the page is out again", x.page(0, 6, 0), PageHold.NONE);
        for (int i = 0; i < 64; i++) Checks.due("byte " + i, x.hand(i), Checks.filled(64 * 6 + i));
    }

    static void promise02_noFrameForTheFirstPage() {
        PageHold x = Checks.stuck();
        x.read(0, 0, 5);
        Checks.due("read", x.read(1, 0, 8), PageHold.NO_FRAME);
        Checks.dueRow("hand stays", x::hand, 7, 10, 13, 16, 19, PageHold.NONE);
        Checks.due("window", x.tree(1, 3), 1);
        Checks.due("next", x.tree(1, 4), 0);
        Checks.due("its shadow stays", x.page(1, 0, 3), 1);
        Checks.due("out", x.page(1, 0, 0), PageHold.NONE);
        Checks.due("no READ", x.told(6), 0);
        Checks.due("none went", x.told(5), 2);
        Checks.due("BAD is named first", x.read(1, 0, 0), PageHold.BAD);
        Checks.due("nothing to read is no refusal", x.read(1, 128, 1), 0);
    }

    static void promise02_noFrameForALaterPage() {
        PageHold x = Checks.stuck();
        x.truncate(0, 640);
        Checks.due("read", x.read(0, 190, 100), 66);
        Checks.due("last in hand", x.hand(65), (7 + 3 * 255) & 255);
        Checks.due("no others", x.hand(66), PageHold.NONE);
        // Touched, so REFERENCED; then looked at for page 4.
        Checks.due("page 2 was touched", x.page(0, 2, 7), 1);
        Checks.due("one byte before it", x.read(0, 255, 2), 1);
    }

    // ---- promise 3

    static void promise03_noneAtFirst() {
        PageHold x = new PageHold(4, 8);
        for (int i : new int[] {0, 1, -1, MIN, MAX}) Checks.due("hand " + i, x.hand(i), PageHold.NONE);
    }

    static void promise03_belowAndBehind() {
        PageHold x = new PageHold(4, 8);
        x.fill(0, 0, 10, 1);
        x.read(0, 0, 10);
        for (int i : new int[] {-1, MIN, 10, 11, 1023, 1024, MAX}) Checks.due("hand " + i, x.hand(i), PageHold.NONE);
        Checks.due("first", x.hand(0), 1);
        Checks.due("last", x.hand(9), 28);
    }

    static void promise03_noOthersBehindAShorterRead() {
        PageHold x = new PageHold(4, 8);
        x.fill(0, 0, 128, 1);
        x.read(0, 0, 128);
        x.read(0, 2, 3);
        Checks.dueRow("hand", x::hand, 7, 10, 13, PageHold.NONE);
    }

    static void promise03_bytesAre0To255() {
        PageHold x = new PageHold(4, 8);
        x.write(0, 0, 0xFF80_7F00L, 4);
        x.read(0, 0, 4);
        Checks.dueRow("hand", x::hand, 0, 127, 128, 255);
    }

    static void promise03_staysWhenReadIsRefused() {
        PageHold x = new PageHold(4, 8);
        x.fill(0, 0, 10, 1);
        x.read(0, 3, 2);
        x.read(0, 0, 0);
        x.read(12, 0, 1);
        Checks.dueRow("hand", x::hand, 10, 13, PageHold.NONE);
    }

    static void promise03_asItWasRead() {
        PageHold x = new PageHold(4, 8);
        x.fill(0, 0, 10, 1);
        x.read(0, 0, 2);
        x.write(0, 0, 99, 1);
        x.truncate(0, 1);
        x.punch(0, 0, 1);
        x.fill(5, 0, 300, 0);
        Checks.dueRow("hand", x::hand, 1, 4, PageHold.NONE);
    }

    // ---- promise 4

    static void promise04_noSuchFile() {
        PageHold x = Checks.busy();
        for (int f : NO_FILES) Checks.dueRefused("file " + f, x, PageHold.BAD, h -> h.write(f, 0, 1, 1));
    }

    static void promise04_amountTooSmallOrTooLarge() {
        PageHold x = Checks.busy();
        for (int n : new int[] {0, -1, MIN, 9, MAX}) {
            Checks.dueRefused("n " + n, x, PageHold.BAD, h -> h.write(2, 0, 1, n));
        }
    }

    static void promise04_placeTooSmallOrTooLarge() {
        PageHold x = Checks.busy();
        int[][] wrong = {{-1, 1}, {-1, 8}, {MIN, 1}, {16384, 1}, {16383, 2}, {16377, 8}, {MAX, 1}, {MAX, 8}, {MAX - 7, 8}};
        for (int[] w : wrong) {
            Checks.dueRefused(w[0] + ", " + w[1], x, PageHold.BAD, h -> h.write(2, w[0], 1, w[1]));
        }
    }

    static void promise04_endsAt16384() {
        PageHold x = new PageHold(4, 8);
        Checks.due("one byte", x.write(0, 16383, 5, 1), 1);
        Checks.due("size", x.size(0), 16384);
        Checks.due("eight bytes", x.write(1, 16376, -1, 8), 8);
        Checks.due("size", x.size(1), 16384);
        Checks.due("its last byte", handAt(x, 1, 16383), 255);
        Checks.due("page", x.page(1, 255, 2), 0);
    }

    static void promise04_lowestBytesFirstAndNoOthers() {
        PageHold x = new PageHold(4, 8);
        x.fill(0, 0, 12, 100);
        Checks.due("three", x.write(0, 2, 0x8899AABBCCDDEEFFL, 3), 3);
        x.read(0, 0, 12);
        Checks.dueRow("hand", x::hand, 100, 103, 0xFF, 0xEE, 0xDD, 115, 118);
        Checks.due("eight", x.write(0, 2, 0x8899AABBCCDDEEFFL, 8), 8);
        x.read(0, 0, 12);
        Checks.dueRow("hand", x::hand, 100, 103, 0xFF, 0xEE, 0xDD, 0xCC, 0xBB, 0xAA, 0x99, 0x88, 130, 133);
    }

    static void promise04_overTheEdgeOfAPage() {
        PageHold x = new PageHold(4, 8);
        Checks.due("up to the edge", x.write(0, 56, 1, 8), 8);
        Checks.due("one page", x.told(0), 1);
        Checks.due("over it", x.write(0, 57, 0x0102030405060708L, 8), 8);
        Checks.due("two pages", x.told(0), 2);
        Checks.due("dirty", x.told(2), 2);
        Checks.due("size", x.size(0), 65);
        Checks.dueList("in order", x, false, 1, 0);
        x.read(0, 57, 8);
        Checks.dueRow("hand", x::hand, 8, 7, 6, 5, 4, 3, 2, 1);
    }

    static void promise04_sizeGrowsButIsNeverLess() {
        PageHold x = new PageHold(4, 8);
        x.write(0, 10, 0, 1);
        Checks.due("one byte grows it", x.size(0), 11);
        x.write(0, 3, -1, 8);
        Checks.due("up to the size", x.size(0), 11);
        x.write(0, 4, -1, 8);
        Checks.due("by one", x.size(0), 12);
        x.write(0, 0, -1, 1);
        Checks.due("within", x.size(0), 12);
    }

    static void promise04_touchesWhatIsIn() {
        PageHold x = new PageHold(4, 8);
        x.write(0, 0, 1, 1);
        Checks.due("brought in", x.page(0, 0, 5), 0);
        x.write(0, 0, 1, 1);
        Checks.due("seen again", x.page(0, 0, 5), 1);
        x.write(0, 0, 1, 1);
        Checks.due("active", x.page(0, 0, 7), 1);
        Checks.due("not referenced", x.page(0, 0, 5), 0);
    }

    static void promise04_nothingComesAhead() {
        PageHold x = Checks.holes(8, 8, 8);
        x.write(0, 0, 1, 1);
        Checks.due("in", x.told(0), 1);
        Checks.due("window", x.tree(0, 3), 1);
        Checks.due("next", x.tree(0, 4), 0);
        x.write(0, 124, 1, 8);
        Checks.due("in", x.told(0), 3);
        Checks.due("next", x.tree(0, 4), 0);
    }

    static void promise04_sizeSoFarWhenAPageGoesForTheNext() {
        PageHold x = new PageHold(4, 8);
        x.truncate(1, 128);
        x.pin(1, 0, true);
        x.pin(1, 1, true);
        x.fail(0, true);
        x.write(2, 0, 1, 1);
        x.sync(2);
        // Three of four frames can not be taken: page 0 goes for page 1 within the call.
        Checks.due("write", x.write(0, 60, 0x0807060504030201L, 8), 8);
        Checks.due("page 0 went", x.page(0, 0, 0), PageHold.NONE);
        Checks.dueRow("as it was written", i -> x.disk(1, 60 + i), 1, 2, 3, 4);
        Checks.due("size", x.size(0), 68);
        Checks.due("page 1", x.page(0, 1, 2), 0);
    }

    static void promise04_noFrameForTheFirstPage() {
        PageHold x = Checks.stuck();
        Checks.due("write", x.write(2, 60, -1, 8), PageHold.NO_FRAME);
        Checks.due("size", x.size(2), 0);
        Checks.due("entries", x.tree(2, 2), 0);
        Checks.due("dirty", x.told(2), 4);
        Checks.due("BAD is named first", x.write(2, 60, -1, 9), PageHold.BAD);
    }

    static void promise04_noFrameForALaterPage() {
        PageHold x = Checks.stuck();
        Checks.due("write", x.write(0, 251, 0x0807060504030201L, 8), 5);
        Checks.due("size", x.size(0), 256);
        x.read(0, 250, 8);
        Checks.dueRow("hand", x::hand, (7 + 3 * 250) & 255, 1, 2, 3, 4, 5, PageHold.NONE);
        PageHold y = Checks.stuck();
        y.truncate(0, 250);
        y.write(0, 254, 0, 8);
        Checks.due("size so far", y.size(0), 256);
    }

    // ---- promise 5

    static void promise05_noSuchFile() {
        PageHold x = Checks.busy();
        for (int f : NO_FILES) Checks.dueRefused("file " + f, x, PageHold.BAD, h -> h.fill(f, 0, 1, 1));
    }

    static void promise05_amountTooSmallOrTooLarge() {
        PageHold x = Checks.busy();
        for (int n : new int[] {0, -1, MIN, 1025, MAX}) {
            Checks.dueRefused("n " + n, x, PageHold.BAD, h -> h.fill(2, 0, n, 1));
        }
    }

    static void promise05_placeTooSmallOrTooLarge() {
        PageHold x = Checks.busy();
        int[][] wrong = {{-1, 1}, {-1, 1024}, {MIN, 1}, {16384, 1}, {16383, 2}, {15361, 1024}, {MAX, 1}, {MAX, 1024},
            {MAX - 1023, 1024}};
        for (int[] w : wrong) {
            Checks.dueRefused(w[0] + ", " + w[1], x, PageHold.BAD, h -> h.fill(2, w[0], w[1], 1));
        }
    }

    static void promise05_leastAndMost() {
        PageHold x = new PageHold(64, 64);
        Checks.due("one", x.fill(0, 7, 1, 77), 1);
        Checks.due("size", x.size(0), 8);
        Checks.due("its byte", handAt(x, 0, 7), 77);
        Checks.due("the one before", handAt(x, 0, 6), 0);
        Checks.due("1024", x.fill(1, 63, 1024, 4), 1024);
        Checks.due("size", x.size(1), 1087);
        Checks.due("pages", x.tree(1, 2), 17);
        x.read(1, 63, 1024);
        for (int i = 0; i < 1024; i++) Checks.due("byte " + i, x.hand(i), (4 + 3 * i) & 255);
    }

    static void promise05_endsAt16384() {
        PageHold x = new PageHold(64, 64);
        Checks.due("1024", x.fill(0, 15360, 1024, 4), 1024);
        Checks.due("size", x.size(0), 16384);
        Checks.due("one", x.fill(1, 16383, 1, 4), 1);
        Checks.due("size", x.size(1), 16384);
    }

    static void promise05_lowestEightBits() {
        PageHold x = new PageHold(4, 8);
        int[][] rows = {{MAX, 255, 2, 5}, {MIN, 0, 3, 6}, {-1, 255, 2, 5}, {-7, 249, 252, 255}, {1000, 232, 235, 238}};
        for (int[] row : rows) {
            x.fill(0, 0, 3, row[0]);
            x.read(0, 0, 3);
            Checks.dueRow("v " + row[0], x::hand, row[1], row[2], row[3]);
        }
    }

    static void promise05_touchesAsWriteDoes() {
        PageHold x = Checks.holes(8, 8, 8);
        x.fill(0, 32, 64, 1);
        Checks.dueList("in order", x, false, 1, 0);
        Checks.due("next", x.tree(0, 4), 0);
        x.fill(0, 0, 64, 1);
        Checks.dueRow("seen again", p -> x.page(0, p, 5), 1, 0);
        Checks.due("size", x.size(0), 512);
    }

    static void promise05_noFrameForTheFirstPage() {
        PageHold x = Checks.stuck();
        Checks.due("fill", x.fill(2, 0, 1024, 1), PageHold.NO_FRAME);
        Checks.due("size", x.size(2), 0);
        Checks.due("BAD is named first", x.fill(2, 0, 1025, 1), PageHold.BAD);
    }

    static void promise05_noFrameForALaterPage() {
        PageHold x = Checks.stuck();
        Checks.due("fill", x.fill(0, 192, 65, 1), 64);
        Checks.due("size", x.size(0), 256);
        Checks.due("last", handAt(x, 0, 255), (1 + 3 * 63) & 255);
    }

    // ---- promise 6

    static void promise06_noSuchFile() {
        PageHold x = Checks.busy();
        for (int f : NO_FILES) Checks.dueRefused("file " + f, x, PageHold.BAD, h -> h.truncate(f, 0));
    }

    static void promise06_sizeTooSmallOrTooLarge() {
        PageHold x = Checks.busy();
        for (int s : new int[] {-1, MIN, 16385, MAX}) {
            Checks.dueRefused("size " + s, x, PageHold.BAD, h -> h.truncate(2, s));
        }
    }

    static void promise06_leastAndMostSize() {
        PageHold x = new PageHold(4, 8);
        Checks.due("to 16384", x.truncate(11, 16384), 0);
        Checks.due("size", x.size(11), 16384);
        Checks.due("to 0", x.truncate(11, 0), 16384);
        Checks.due("size", x.size(11), 0);
        Checks.due("to 0 again", x.truncate(11, 0), 0);
    }

    static void promise06_sameSizeTouchesNothing() {
        PageHold x = new PageHold(4, 8);
        x.fill(0, 0, 70, 1);
        x.sync(0);
        Checks.dueRefused("same", x, 70, h -> h.truncate(0, 70));
        x.drop();
        Checks.dueRefused("same, with the page out", x, 70, h -> h.truncate(0, 70));
    }

    static void promise06_largerTouchesNothing() {
        PageHold x = new PageHold(4, 8);
        x.fill(0, 0, 70, 1);
        x.sync(0);
        Checks.due("larger", x.truncate(0, 71), 70);
        Checks.due("not dirty", x.told(2), 0);
        Checks.due("not seen again", x.page(0, 1, 5), 0);
        Checks.due("0 there", handAt(x, 0, 70), 0);
    }

    static void promise06_pageThatBeginsAtTheSizeGoes() {
        PageHold x = new PageHold(8, 8);
        x.fill(0, 0, 256, 1);
        x.sync(0);
        Checks.due("to 128", x.truncate(0, 128), 256);
        Checks.dueRow("in", p -> x.page(0, p, 0), 0, 1, -1, -1);
        Checks.dueRow("blocks", p -> x.page(0, p, 1), 0, 1, -1, -1);
        Checks.due("free blocks", x.told(8), 6);
        Checks.due("none is dirty", x.told(2), 0);
        Checks.due("none was touched", x.page(0, 1, 5), 0);
    }

    static void promise06_pageThatBeginsOneBeforeTheSizeStays() {
        PageHold x = new PageHold(8, 8);
        x.fill(0, 0, 256, 1);
        x.sync(0);
        Checks.due("to 129", x.truncate(0, 129), 256);
        Checks.dueRow("in", p -> x.page(0, p, 0), 0, 1, 2, -1);
        Checks.dueRow("since", p -> x.page(0, p, 2), -1, -1, 0, -1);
        Checks.due("seen again", x.page(0, 2, 5), 1);
        x.truncate(0, 256);
        Checks.due("last byte left", handAt(x, 0, 128), (1 + 3 * 128) & 255);
        Checks.due("first byte cut", handAt(x, 0, 129), 0);
        Checks.due("last byte cut", handAt(x, 0, 191), 0);
    }

    static void promise06_oneByteCutOff() {
        PageHold x = new PageHold(8, 8);
        x.fill(0, 0, 64, 1);
        x.sync(0);
        Checks.due("to 63", x.truncate(0, 63), 64);
        Checks.due("dirty", x.page(0, 0, 2), 0);
        x.truncate(0, 64);
        Checks.due("left", handAt(x, 0, 62), (1 + 3 * 62) & 255);
        Checks.due("cut", handAt(x, 0, 63), 0);
    }

    static void promise06_pagesBehindHaveNoShadowBlockOrBytes() {
        PageHold x = new PageHold(8, 8);
        x.fill(0, 0, 256, 1);
        x.sync(0);
        x.drop();
        x.pin(0, 2, true);
        x.write(0, 192, 9, 1);
        Checks.due("to 64", x.truncate(0, 64), 256);
        Checks.dueRow("shadows", p -> x.page(0, p, 3), 1, -1, -1, -1);
        Checks.dueRow("blocks", p -> x.page(0, p, 1), 0, -1, -1, -1);
        Checks.due("in", x.told(0), 0);
        Checks.due("pinned", x.told(3), 0);
        Checks.due("dirty", x.told(2), 0);
        Checks.due("shadows in all", x.told(4), 1);
        Checks.due("EVICTED is not what they were", x.told(5), 4);
        x.truncate(0, 256);
        for (int at = 64; at < 256; at += 63) Checks.due("byte " + at, handAt(x, 0, at), 0);
    }

    static void promise06_nothingIsWritten() {
        PageHold x = new PageHold(8, 8);
        x.fill(0, 0, 256, 1);
        Checks.due("to 100", x.truncate(0, 100), 256);
        Checks.due("writes", x.told(7), 0);
        Checks.due("free blocks", x.told(8), 8);
        Checks.due("dirty", x.told(2), 2);
    }

    static void promise06_noSurplusIsWritten() {
        PageHold x = new PageHold(4, 8);
        Checks.failAll(x, true);
        x.fill(0, 0, 180, 1);
        Checks.failAll(x, false);
        Checks.due("three are dirty", x.told(2), 3);
        x.truncate(0, 170);
        Checks.due("still", x.told(2), 3);
        Checks.due("writes", x.told(7), 0);
    }

    static void promise06_cutPageOutWithABlockIsRead() {
        PageHold x = new PageHold(8, 8);
        x.fill(0, 0, 64, 1);
        x.sync(0);
        x.drop();
        x.tick(2);
        Checks.due("to 10", x.truncate(0, 10), 64);
        Checks.dueRecord("a READ", x, 0, 0, 1);
        Checks.due("in", x.page(0, 0, 0), 0);
        Checks.due("dirty since", x.page(0, 0, 2), 2);
        Checks.due("its shadow goes", x.told(4), 0);
        Checks.due("none was active: active", x.page(0, 0, 7), 1);
    }

    static void promise06_cutPageWithoutFrameAndBlockIsLeft() {
        PageHold x = Checks.holes(4, 8, 4);
        Checks.touch(x, 0, 1);
        x.drop();
        Checks.due("to 65", x.truncate(0, 65), 256);
        Checks.due("not in", x.told(0), 0);
        Checks.due("its shadow stays", x.page(0, 1, 3), 1);
        Checks.due("not dirty", x.told(2), 0);
    }

    static void promise06_cutPageInWithoutABlockIsDirty() {
        PageHold x = Checks.holes(4, 8, 4);
        Checks.touch(x, 0, 1);
        x.tick(1);
        Checks.due("to 65", x.truncate(0, 65), 256);
        Checks.due("dirty since", x.page(0, 1, 2), 1);
        Checks.due("seen again", x.page(0, 1, 5), 1);
        Checks.due("no block", x.page(0, 1, 1), PageHold.NONE);
        x.truncate(0, 66);
        x.tick(1);
        x.truncate(0, 65);
        Checks.due("since then still", x.page(0, 1, 2), 1);
        Checks.due("seen twice: active", x.page(0, 1, 7), 1);
    }

    static void promise06_toNothingTouchesNothing() {
        PageHold x = new PageHold(4, 8);
        x.fill(0, 0, 64, 1);
        x.sync(0);
        x.drop();
        Checks.due("to 0", x.truncate(0, 0), 64);
        Checks.due("in", x.told(0), 0);
        Checks.due("no READ", x.told(6), 0);
        Checks.due("entries", x.tree(0, 2), 0);
        Checks.due("free blocks", x.told(8), 8);
        Checks.due("the disk keeps what it had", x.disk(0, 1), 4);
    }

    static void promise06_framesOfPagesBehindAreFreeForTheCutOne() {
        PageHold x = new PageHold(4, 8);
        x.fill(0, 0, 64, 1);
        x.sync(0);
        x.drop();
        Checks.failAll(x, true);
        x.fill(0, 64, 256, 1);
        Checks.due("no frame else", x.read(0, 0, 1), PageHold.NO_FRAME);
        Checks.due("to 10", x.truncate(0, 10), 320);
        Checks.due("in", x.page(0, 0, 0), 0);
        Checks.due("alone", x.told(0), 1);
    }

    static void promise06_cutsNoOtherPage() {
        PageHold x = new PageHold(4, 8);
        for (int f = 0; f < 4; f++) x.fill(f, 0, 64, 10 * f + 1);
        for (int f = 0; f < 4; f++) {
            Checks.due("cut", x.truncate(f, 20), 64);
            x.truncate(f, 64);
            for (int g = 0; g < 4; g++) {
                x.read(g, 0, 64);
                for (int i = 0; i < 64; i += 3) {
                    Checks.due("byte " + i + " of " + g, x.hand(i), g <= f && i >= 20 ? 0 : (10 * g + 1 + 3 * i) & 255);
                }
            }
        }
    }

    static void promise06_windowNextAndErrorStay() {
        PageHold x = Checks.holes(8, 8, 8);
        x.read(0, 0, 1);
        x.fail(0, true);
        x.write(0, 0, 1, 1);
        x.tick(5);
        x.truncate(0, 0);
        Checks.dueRow("tree", w -> x.tree(0, w), 0, 0, 0, 2, 2, PageHold.DEFECT);
    }

    static void promise06_noFrameForTheCutPage() {
        PageHold x = Checks.stuck();
        Checks.due("truncate", x.truncate(1, 10), PageHold.NO_FRAME);
        Checks.due("size", x.size(1), 10);
        Checks.dueRow("blocks", p -> x.page(1, p, 1), 0, -1);
        Checks.dueRow("shadows", p -> x.page(1, p, 3), 1, -1);
        Checks.due("free blocks", x.told(8), 3);
        Checks.due("out", x.page(1, 0, 0), PageHold.NONE);
        Checks.due("the block is as it was", x.disk(0, 10), (200 + 30) & 255);
        Checks.due("dirty", x.told(2), 4);
        Checks.due("again: the size it has", x.truncate(1, 10), 10);
    }

    // ---- promise 7

    static void promise07_noSuchFile() {
        PageHold x = Checks.busy();
        for (int f : NO_FILES) Checks.dueRefused("file " + f, x, PageHold.BAD, h -> h.punch(f, 0, 1));
    }

    static void promise07_noSuchPage() {
        PageHold x = Checks.busy();
        for (int p : new int[] {-1, MIN, 256, MAX}) Checks.dueRefused("page " + p, x, PageHold.BAD, h -> h.punch(2, p, 1));
    }

    static void promise07_amountTooSmallOrTooLarge() {
        PageHold x = Checks.busy();
        for (int n : new int[] {0, -1, MIN, 257, MAX}) {
            Checks.dueRefused("n " + n, x, PageHold.BAD, h -> h.punch(2, 0, n));
        }
    }

    static void promise07_asFarAs255() {
        PageHold x = new PageHold(8, 8);
        x.write(0, 64 * 253, 1, 1);
        x.write(0, 64 * 254, 1, 1);
        x.write(0, 16383, 1, 1);
        x.write(1, 0, 1, 1);
        Checks.due("from 254", x.punch(0, 254, 256), 2);
        Checks.due("page 253 stays", x.page(0, 253, 0), 0);
        Checks.due("the next file's first page stays", x.page(1, 0, 0), 3);
        Checks.due("size stays", x.size(0), 16384);
        Checks.due("255 alone", x.punch(0, 255, 1), 0);
    }

    static void promise07_allPages() {
        PageHold x = new PageHold(8, 8);
        x.write(0, 0, 1, 1);
        x.write(0, 16383, 1, 1);
        Checks.due("256 of them", x.punch(0, 0, 256), 2);
        Checks.due("entries", x.tree(0, 2), 0);
        Checks.due("size stays", x.size(0), 16384);
    }

    static void promise07_onlySoMany() {
        PageHold x = new PageHold(16, 16);
        x.fill(0, 0, 64 * 4, 1);
        Checks.due("two from 1 on", x.punch(0, 1, 2), 2);
        Checks.dueRow("in", p -> x.page(0, p, 0), 0, -1, -1, 3);
    }

    static void promise07_countsWhatWasInOrHadABlock() {
        PageHold x = new PageHold(16, 16);
        x.fill(0, 0, 128, 1);
        x.sync(0);
        x.truncate(0, 640);
        Checks.touch(x, 0, 2);
        x.drop();
        Checks.touch(x, 0, 1);
        x.write(0, 192, 1, 1);
        // 0: a block; 1: a frame and a block; 2: a shadow; 3: a frame; 4: nothing.
        Checks.dueRow("each", p -> x.punch(0, p, 1), 1, 1, 0, 1, 0);
        Checks.due("no shadows", x.told(4), 0);
        Checks.due("none in", x.told(0), 0);
        Checks.due("all blocks free", x.told(8), 16);
        Checks.due("nothing was written", x.told(7), 2);
        Checks.due("none more was EVICTED", x.told(5), 3);
    }

    static void promise07_dirtyAndPinnedGoToo() {
        PageHold x = new PageHold(4, 8);
        x.fill(0, 0, 64, 1);
        x.pin(0, 0, true);
        Checks.due("punch", x.punch(0, 0, 1), 1);
        Checks.due("dirty", x.told(2), 0);
        Checks.due("pinned", x.told(3), 0);
        Checks.dueList("inactive", x, false);
        Checks.due("size", x.size(0), 64);
        Checks.due("reads 0", handAt(x, 0, 1), 0);
        Checks.dueRow("as new", w -> x.page(0, 0, w), 0, -1, -1, -1, 0, 0, 0, 0);
    }

    static void promise07_behindTheSize() {
        PageHold x = new PageHold(4, 8);
        Checks.due("punch", x.punch(0, 3, 20), 0);
        Checks.due("size", x.size(0), 0);
    }

    static void promise07_windowNextAndErrorStay() {
        PageHold x = Checks.holes(8, 8, 8);
        x.read(0, 0, 1);
        x.fail(0, true);
        x.write(0, 0, 1, 1);
        x.tick(5);
        x.punch(0, 0, 256);
        Checks.dueRow("tree", w -> x.tree(0, w), 0, 0, 0, 2, 2, PageHold.DEFECT);
    }

    static void promise07_blockIsFreeAndKeepsItsBytes() {
        PageHold x = new PageHold(4, 8);
        x.fill(0, 0, 128, 1);
        x.sync(0);
        x.punch(0, 0, 1);
        Checks.due("on the disk", x.disk(0, 1), 4);
        x.write(1, 0, 77, 1);
        x.sync(1);
        Checks.due("the least that is free", x.page(1, 0, 1), 0);
        Checks.due("written over", x.disk(0, 1), 0);
    }
}
