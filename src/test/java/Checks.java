import java.lang.reflect.InvocationTargetException;
import java.lang.reflect.Method;
import java.util.Arrays;
import java.util.Comparator;
import java.util.function.ToLongFunction;

/** What the tests of boundaries share: answers held against those due, and objects in states of use. */
final class Checks {
    private static int asked = 0;
    private static int wrong = 0;
    private static String test = "";

    private Checks() {
    }

    /** Runs each method that is named after a promise or the terms; how many answers were wrong. */
    static int failures(Class<?> tests) {
        asked = 0;
        wrong = 0;
        Method[] methods = tests.getDeclaredMethods();
        Arrays.sort(methods, Comparator.comparing(Method::getName));
        int ran = 0;
        for (Method m : methods) {
            if (!m.getName().matches("(promise|terms)\\d.*")) continue;
            test = m.getName();
            ran++;
            try {
                m.invoke(null);
            } catch (InvocationTargetException | IllegalAccessException e) {
                wrong++;
                System.out.println(test + ": threw " + (e.getCause() == null ? e : e.getCause()));
            }
        }
        System.out.println(ran + " tests, " + asked + " answers, " + wrong + " not as due");
        return ran == 0 ? 1 : wrong;
    }

    static void run(Class<?> tests) {
        if (failures(tests) != 0) System.exit(1);
    }

    static void due(String what, long got, long want) {
        asked++;
        if (got != want) {
            wrong++;
            System.out.println(test + ": " + what + ": answered " + got + ", due is " + want);
        }
    }

    static void due(String what, boolean got, boolean want) {
        due(what, got ? 1 : 0, want ? 1 : 0);
    }

    /** A whole list from its front, a place as 256 times the file and the page. */
    static void dueList(String what, PageHold x, boolean active, int... spots) {
        for (int k = 0; k < spots.length; k++) due(what + ", place " + k, x.listed(active, k), spots[k]);
        due(what + ", its end", x.listed(active, spots.length), PageHold.NONE);
    }

    /** The whole record, three numbers a run: kind, first block, how many. */
    static void dueRecord(String what, PageHold x, int... runs) {
        due(what + ", runs", x.told(10), runs.length / 3);
        for (int i = 0; i < runs.length; i++) {
            due(what + ", run " + i / 3 + " " + i % 3, x.run(i / 3, i % 3), runs[i]);
        }
        due(what + ", its end", x.run(runs.length / 3, 0), PageHold.NONE);
    }

    /** Answers of one call over a row of arguments, in order. */
    static void dueRow(String what, java.util.function.IntToLongFunction call, long... want) {
        for (int i = 0; i < want.length; i++) due(what + " " + i, call.applyAsLong(i), want[i]);
    }

    static void dueSame(String what, String before, String after) {
        asked++;
        if (before.equals(after)) return;
        wrong++;
        String[] was = before.split("\n");
        String[] is = after.split("\n");
        for (int i = 0; i < Math.min(was.length, is.length); i++) {
            if (!was[i].equals(is[i])) System.out.println(test + ": " + what + ": was " + was[i] + ", is " + is[i]);
        }
    }

    /** The call answers this and nothing that can be asked for is otherwise behind it. */
    static void dueRefused(String what, PageHold x, long want, ToLongFunction<PageHold> call) {
        String before = traces(x);
        due(what, call.applyAsLong(x), want);
        dueSame(what + " changes nothing", before, traces(x));
    }

    /**
     * All that can be asked for, a line each. It takes more than the 512 calls that the document
     * speaks of; this class answers on as before.
     */
    static String traces(PageHold x) {
        StringBuilder all = new StringBuilder();
        for (int w = 0; w < 12; w++) line(all, "told " + w, x.told(w));
        for (int k = 0; k < x.told(10); k++) for (int w = 0; w < 3; w++) line(all, "run " + k + " " + w, x.run(k, w));
        for (int i = 0; i <= 1024; i++) line(all, "hand " + i, x.hand(i));
        for (int k = 0; k < 65; k++) {
            line(all, "active " + k, x.listed(true, k));
            line(all, "inactive " + k, x.listed(false, k));
        }
        for (int f = 0; f < 12; f++) {
            line(all, "size " + f, x.size(f));
            for (int w = 0; w < 6; w++) line(all, "tree " + f + " " + w, x.tree(f, w));
            for (int p = 0; p < 256; p++) {
                for (int w = 0; w < 8; w++) line(all, "page " + f + " " + p + " " + w, x.page(f, p, w));
            }
        }
        for (int b = 0; x.disk(b, 0) != PageHold.BAD; b++) {
            for (int i = 0; i < 64; i++) line(all, "disk " + b + " " + i, x.disk(b, i));
        }
        return all.toString();
    }

    private static void line(StringBuilder all, String what, long answer) {
        all.append(what).append(" = ").append(answer).append('\n');
    }

    // ---- objects in states of use

    /** A file 0 of so many pages, all holes. */
    static PageHold holes(int frames, int blocks, int pages) {
        PageHold x = new PageHold(frames, blocks);
        x.truncate(0, 64 * pages);
        return x;
    }

    /** Touches pages alone: nothing comes ahead of a pin, and to take it off does not touch. */
    static void touch(PageHold x, int file, int... pages) {
        for (int p : pages) {
            x.pin(file, p, true);
            x.pin(file, p, false);
        }
    }

    /** Brings pages that are out to the front of ACTIVE, by three touches. */
    static void activate(PageHold x, int file, int... pages) {
        for (int p : pages) touch(x, file, p, p, p);
    }

    /** Byte i of a file that fillPages filled: no two pages are alike, as those of one fill may be. */
    static int filled(int i) {
        return (17 * (i / 64) + 3 * (i % 64)) & 255;
    }

    static void fillPages(PageHold x, int file, int pages) {
        for (int p = 0; p < pages; p++) x.fill(file, 64 * p, 64, 17 * p);
    }

    static void failAll(PageHold x, boolean fails) {
        for (int b = 0; x.disk(b, 0) != PageHold.BAD; b++) x.fail(b, fails);
    }

    /**
     * Four frames, each with a dirty page of file 0 (blocks 2 to 5) that can not be written; file 1
     * has two pages that are out, with blocks 0 and 1 and shadows 1 and 2. All blocks fail.
     */
    static PageHold stuck() {
        PageHold x = new PageHold(4, 8);
        x.fill(1, 0, 128, 200);
        x.sync(1);
        x.drop();
        failAll(x, true);
        x.fill(0, 0, 256, 7);
        return x;
    }

    /** Something of everything: marks, both lists, shadows, errors, a window, a hand and a record. */
    static PageHold busy() {
        PageHold x = new PageHold(8, 16);
        x.fill(2, 0, 320, 11);
        x.fill(3, 0, 64 * 9, 130);
        x.read(2, 0, 64);
        x.read(2, 128, 100);
        x.tick(3);
        x.fail(0, true);
        x.write(2, 5, -1, 8);
        x.pin(3, 8, true);
        x.pin(2, 1, true);
        x.sync(2);
        x.write(2, 9, 77, 1);
        x.tick(5);
        x.read(2, 3, 40);
        x.read(3, 0, 200);
        return x;
    }
}
