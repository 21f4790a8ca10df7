import java.util.ArrayList;
import java.util.List;
import java.util.Random;

/** Random runs of calls, each answer and each trace it leaves held against the Model. */
public final class ModelTest {
    private static final int RUNS = 150;
    private static final int CALLS = 300;
    private static final int[] EDGES = {Integer.MIN_VALUE, Integer.MAX_VALUE, -1, 0, 1, 11, 12, 63, 64, 65, 255, 256, 257,
        1023, 1024, 1025, 16320, 16383, 16384, 16385};

    private final PageHold hold;
    private final Model model;
    private final Random random;
    private final int files;
    private final int reach;
    private final List<String> calls = new ArrayList<>();

    private ModelTest(long seed) {
        random = new Random(seed);
        int frames = random.nextInt(4) == 0 ? random.nextInt(70) : 4 + random.nextInt(9);
        int blocks = random.nextInt(4) == 0 ? random.nextInt(520) : 8 + random.nextInt(40);
        files = random.nextInt(3) == 0 ? 12 : 1 + random.nextInt(3);
        reach = random.nextInt(4) == 0 ? 16384 : 64 * (2 + random.nextInt(40));
        hold = new PageHold(frames, blocks);
        model = new Model(frames, blocks);
        calls.add("new PageHold(" + frames + ", " + blocks + ")");
    }

    public static void main(String[] args) {
        int wrong = 0;
        int runs = args.length > 0 ? Integer.parseInt(args[0]) : RUNS;
        int first = args.length > 1 ? Integer.parseInt(args[1]) : 0;
        for (int seed = first; seed < first + runs && wrong == 0; seed++) {
            wrong += new ModelTest(seed).goes() ? 0 : 1;
        }
        System.out.println(wrong == 0 ? runs + " runs are as the model's" : "a run is not as the model's");
        if (wrong != 0) System.exit(1);
    }

    private boolean goes() {
        for (int i = 0; i < CALLS; i++) {
            String wrong = oneCall();
            wrong = wrong == null ? traces(i % 16 == 0) : wrong;
            if (wrong != null) {
                calls.forEach(System.out::println);
                System.out.println(wrong);
                return false;
            }
        }
        return true;
    }

    private String same(String what, long got, long want) {
        return got == want ? null : what + " answered " + got + ", the model " + want;
    }

    /** Now and then an edge in a number's stead. */
    private int orEdge(int usual) {
        return random.nextInt(80) == 0 ? EDGES[random.nextInt(EDGES.length)] : usual;
    }

    private int file() {
        return orEdge(random.nextInt(60) == 0 ? random.nextInt(16) - 2 : random.nextInt(files));
    }

    private int place() {
        int at = random.nextInt(3) == 0 ? random.nextInt(reach / 64) * 64 : random.nextInt(reach);
        return orEdge(random.nextInt(60) == 0 ? at * 4 - 99 : at);
    }

    private int page() {
        return orEdge(random.nextInt(60) == 0 ? random.nextInt(300) - 20 : random.nextInt(reach / 64));
    }

    private int amount() {
        int[] amounts = {random.nextInt(20), random.nextInt(200), random.nextInt(1100), 64, 1024};
        return orEdge(amounts[random.nextInt(amounts.length)]);
    }

    private String oneCall() {
        int f = file();
        int at = place();
        int p = page();
        int n = amount();
        int v = random.nextInt();
        boolean yes = random.nextInt(3) != 0;
        switch (random.nextInt(28)) {
            case 0: case 1: case 2: case 3: case 4: case 5:
                calls.add("read(" + f + ", " + at + ", " + n + ")");
                return same("read", hold.read(f, at, n), model.read(f, at, n));
            case 6: case 7: case 8: {
                int few = orEdge(random.nextInt(11));
                long row = random.nextLong();
                calls.add("write(" + f + ", " + at + ", " + row + ", " + few + ")");
                return same("write", hold.write(f, at, row, few), model.write(f, at, row, few));
            }
            case 9: case 10: case 11: case 12:
                calls.add("fill(" + f + ", " + at + ", " + n + ", " + v + ")");
                return same("fill", hold.fill(f, at, n, v), model.fill(f, at, n, v));
            case 13:
                calls.add("truncate(" + f + ", " + at + ")");
                return same("truncate", hold.truncate(f, at), model.truncate(f, at));
            case 14: {
                int few = orEdge(random.nextInt(5) == 0 ? random.nextInt(300) : random.nextInt(5));
                calls.add("punch(" + f + ", " + p + ", " + few + ")");
                return same("punch", hold.punch(f, p, few), model.punch(f, p, few));
            }
            case 15:
                calls.add("sync(" + f + ")");
                return same("sync", hold.sync(f), model.sync(f));
            case 16: case 17: {
                int s = orEdge(random.nextInt(20) == 0 ? random.nextInt(1100) - 50 : random.nextInt(8));
                calls.add("tick(" + s + ")");
                return same("tick", hold.tick(s), model.tick(s));
            }
            case 18: case 19: case 20:
                calls.add("pin(" + f + ", " + p + ", " + yes + ")");
                return same("pin", hold.pin(f, p, yes) ? 1 : 0, model.pin(f, p, yes) ? 1 : 0);
            case 21: case 22: {
                int block = orEdge(random.nextInt(12) - (random.nextInt(20) == 0 ? 5 : 0));
                calls.add("fail(" + block + ", " + yes + ")");
                return same("fail", hold.fail(block, yes) ? 1 : 0, model.fail(block, yes) ? 1 : 0);
            }
            case 23: case 24: {
                int again = 64 * random.nextInt(4);
                calls.add("read(" + f + ", " + again + ", 64)");
                return same("read", hold.read(f, again, 64), model.read(f, again, 64));
            }
            default:
                return rareCall();
        }
    }

    private String rareCall() {
        switch (random.nextInt(9)) {
            case 0:
                calls.add("crash()");
                return same("crash", hold.crash(), model.crash());
            case 1: case 2:
                calls.add("drop()");
                return same("drop", hold.drop(), model.drop());
            case 3: case 4: case 5:
                calls.add("syncAll()");
                return same("syncAll", hold.syncAll(), model.syncAll());
            default: {
                int f = file();
                int from = 64 * random.nextInt(Math.max(1, reach / 64));
                calls.add("read(" + f + ", " + from + ", 700)");
                return same("read", hold.read(f, from, 700), model.read(f, from, 700));
            }
        }
    }

    private String traces(boolean all) {
        String wrong = null;
        for (int i = -1; i < 13 && wrong == null; i++) wrong = same("told(" + i + ")", hold.told(i), model.told(i));
        for (int k = -1; k < model.told(10) + 2 && wrong == null; k++) {
            for (int w = -1; w < 4 && wrong == null; w++) {
                wrong = same("run(" + k + ", " + w + ")", hold.run(k, w), model.run(k, w));
            }
        }
        for (int k = -1; k < 66 && wrong == null; k++) {
            wrong = same("listed(true, " + k + ")", hold.listed(true, k), model.listed(true, k));
            if (wrong == null) wrong = same("listed(false, " + k + ")", hold.listed(false, k), model.listed(false, k));
        }
        for (int i = -1; i < 1026 && wrong == null; i++) wrong = same("hand(" + i + ")", hold.hand(i), model.hand(i));
        for (int f = -1; f < 13 && wrong == null; f++) wrong = fileTraces(f);
        return all && wrong == null ? deepTraces() : wrong;
    }

    private String fileTraces(int f) {
        String wrong = same("size(" + f + ")", hold.size(f), model.size(f));
        for (int w = -1; w < 7 && wrong == null; w++) wrong = same("tree(" + f + ", " + w + ")", hold.tree(f, w), model.tree(f, w));
        int p = random.nextInt(reach / 64);
        for (int w = -1; w < 9 && wrong == null; w++) {
            wrong = same("page(" + f + ", " + p + ", " + w + ")", hold.page(f, p, w), model.page(f, p, w));
            if (wrong == null) wrong = same("next(" + f + ", " + p + ", " + w + ")", hold.next(f, p, w), model.next(f, p, w));
        }
        return wrong;
    }

    private String deepTraces() {
        String wrong = null;
        for (int b = -1; b <= model.blocks && wrong == null; b++) {
            for (int i = -1; i < 65 && wrong == null; i++) {
                wrong = same("disk(" + b + ", " + i + ")", hold.disk(b, i), model.disk(b, i));
            }
        }
        for (int f = 0; f < files && wrong == null; f++) {
            for (int p = -1; p < 257 && wrong == null; p++) {
                for (int w = 0; w < 8 && wrong == null; w++) {
                    wrong = same("page(" + f + ", " + p + ", " + w + ")", hold.page(f, p, w), model.page(f, p, w));
                }
            }
        }
        return wrong;
    }
}
