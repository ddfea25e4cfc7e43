import java.lang.reflect.Field;
import java.util.Random;

/**
 * Runs of 512 calls, always the same ones, beside a plain model of the document; the last calls of each
 * ask for every page. After every call it also looks inside, since nothing outside shows whether the
 * spare blocks are kept in hand.
 *
 * In every second run total() is asked after each call: the values are random, so that a wrong one shows
 * there at once. The other runs leave a change unseen for longer, and have room for more changes.
 */
public final class RandomRunsTest {
    private static final int RUNS = 6000;
    private static final int CALLS = 512;
    private static final int CALLS_FOR_WHOLE_STATE = 24;
    private static final int MOST_WRONG = 20;
    private static final int[] EDGES = {-1, 12, Integer.MIN_VALUE, Integer.MAX_VALUE};
    private static int wrong = 0;

    private final boolean[] has = new boolean[12];
    private final int[] value = new int[12];
    private final int run;
    private final Random random;
    private final FlashMap x;
    private final int spare;
    private final int[] weights = new int[11];
    private int calls = 0;

    private RandomRunsTest(int run) {
        this.run = run;
        random = new Random(run);
        int asked = random.nextInt(6) - 1;
        x = new FlashMap(asked);
        spare = Math.max(1, Math.min(3, asked));
        // Another mix of calls in every run: some are nearly all torn, some nearly all fill.
        for (int i = 0; i < weights.length; i++) {
            weights[i] = 1 + (random.nextInt(3) == 0 ? random.nextInt(60) : 0);
        }
    }

    private int anyCall() {
        int sum = 0;
        for (int weight : weights) {
            sum += weight;
        }
        int left = random.nextInt(sum);
        int call = 0;
        while (left >= weights[call]) {
            left -= weights[call++];
        }
        return call;
    }

    private int anyPage() {
        return random.nextInt(40) == 0 ? EDGES[random.nextInt(EDGES.length)] : random.nextInt(12);
    }

    private static boolean inside(int p) {
        return p >= 0 && p < 12;
    }

    private int count(int p) {
        return has[p] ? 1 : 0;
    }

    private void put(int p, boolean newHas, int newValue) {
        has[p] = newHas;
        value[p] = newHas ? newValue : 0;
    }

    private int used() {
        int sum = 0;
        for (int p = 0; p < 12; p++) {
            sum += count(p);
        }
        return sum;
    }

    private long total() {
        long sum = 0;
        for (int p = 0; p < 12; p++) {
            sum += value[p];
        }
        return sum;
    }

    private int nextUsed(int p) {
        for (int q = 0; q < 12; q++) {
            if (q > p && has[q]) {
                return q;
            }
        }
        return -2;
    }

    private int write(int p, int v) {
        if (!inside(p)) {
            return -1;
        }
        int before = count(p);
        put(p, true, v);
        return before;
    }

    private int trim(int p) {
        if (!inside(p)) {
            return -1;
        }
        int before = count(p);
        put(p, false, 0);
        return before;
    }

    private int exchange(int p, int q) {
        if (!inside(p) || !inside(q)) {
            return -1;
        }
        boolean hasP = has[p];
        int valueP = value[p];
        put(p, has[q], value[q]);
        put(q, hasP, valueP);
        return count(p) + count(q);
    }

    private int fill(int p, int q, int r) {
        if (!inside(p) || !inside(q) || !inside(r) || q > r) {
            return -1;
        }
        boolean hasP = has[p];
        int valueP = value[p];
        for (int page = q; page <= r; page++) {
            put(page, hasP, valueP);
        }
        return r - q + 1;
    }

    private void due(String call, long got, long want) {
        calls++;
        if (got != want) {
            tellWrong(call + " answered " + got + ", due is " + want);
        }
    }

    private void tellWrong(String words) {
        wrong++;
        System.out.println("run " + run + ", call " + calls + ": " + words);
    }

    private void oneCall() {
        int p = anyPage();
        int q = anyPage();
        int r = anyPage();
        int v = random.nextInt();
        switch (anyCall()) {
            case 0 -> due("write(" + p + ", " + v + ")", x.write(p, v), write(p, v));
            case 1 -> due("torn(" + p + ", " + v + ")", x.torn(p, v), inside(p) ? p : -1);
            case 2 -> due("trim(" + p + ")", x.trim(p), trim(p));
            case 3 -> due("powerCut()", x.powerCut(), used());
            case 4 -> due("has(" + p + ")", x.has(p) ? 1 : 0, inside(p) ? count(p) : 0);
            case 5 -> due("read(" + p + ")", x.read(p), inside(p) ? value[p] : 0);
            case 6 -> due("used()", x.used(), used());
            case 7 -> due("nextUsed(" + p + ")", x.nextUsed(p), nextUsed(p));
            case 8 -> due("total()", x.total(), total());
            case 9 -> due("exchange(" + p + ", " + q + ")", x.exchange(p, q), exchange(p, q));
            default -> due("fill(" + p + ", " + q + ", " + r + ")", x.fill(p, q, r), fill(p, q, r));
        }
    }

    private void wholeState() {
        for (int p = 0; p < 12; p++) {
            due("has(" + p + ") at the end", x.has(p) ? 1 : 0, count(p));
            due("read(" + p + ") at the end", x.read(p), value[p]);
        }
    }

    private void blocksInHand(Field kindField) throws ReflectiveOperationException {
        int[] kind = (int[]) kindField.get(x);
        int erased = 0;
        for (int block = 0; block < 8; block++) {
            int sum = 0;
            for (int page = 0; page < 4; page++) {
                sum += kind[block * 4 + page];
            }
            erased += sum == 0 ? 1 : 0;
        }
        if (erased < spare) {
            tellWrong(erased + " erased blocks are left, fewer than " + spare);
        }
    }

    private void wholeRun(Field kindField) throws ReflectiveOperationException {
        boolean totals = run % 2 == 0;
        int step = totals ? 2 : 1;
        while (calls + step <= CALLS - CALLS_FOR_WHOLE_STATE && wrong < MOST_WRONG) {
            oneCall();
            if (totals) {
                due("total() after it", x.total(), total());
            }
            blocksInHand(kindField);
        }
        wholeState();
    }

    public static void main(String[] args) throws ReflectiveOperationException {
        Field kind = FlashMap.class.getDeclaredField("kind");
        kind.setAccessible(true);
        for (int run = 0; run < RUNS && wrong < MOST_WRONG; run++) {
            new RandomRunsTest(run).wholeRun(kind);
        }
        System.out.println(wrong == 0 ? "all answers are as due" : wrong + " answers are not as due");
        if (wrong != 0) {
            System.exit(1);
        }
    }
}
