import java.lang.reflect.Field;
import java.util.Arrays;
import java.util.function.ToIntFunction;

/**
 * One test for each sentence of the document that names a boundary case: too small, too large, empty,
 * full, a wrap-around, a refused call. A line that is printed begins with the sentence that is broken.
 * No object is asked more than the 512 calls that the document speaks of, but in the last test.
 */
public final class SentencesTest {
    private static final int MIN = Integer.MIN_VALUE;
    private static final int MAX = Integer.MAX_VALUE;
    private static final int BAD = -1;
    private static final int NONE = -2;

    // Many of these would be a page from 0 to 11 if only their lowest bits were looked at.
    private static final int[] OUTSIDE = {
        -1, 12, 13, 15, 16, 32, 255, 256, 65536, 65547, 1 << 30, MAX - 1, MAX,
        -2, -11, -12, -13, -16, -256, -65536, MIN + 11, MIN + 1, MIN};
    private static final int[] EDGE_VALUES = {0, 1, -1, -2, 11, 12, MIN, MIN + 1, MAX, MAX - 1};
    private static final int[] SPARES = {MIN, -1, 0, 1, 2, 3, 4, 5, 8, MAX};

    // The states that tests start from; null stands for no value.
    private static final Integer[] EMPTY = new Integer[12];
    private static final Integer[] FULL = {100, 101, 102, 103, 104, 105, 106, 107, 108, 109, 110, 111};
    private static final Integer[] EVEN = {20, null, 22, null, 24, null, 26, null, 28, null, 30, null};
    private static final Integer[] ODD = {null, 31, null, 33, null, 35, null, 37, null, 39, null, 41};
    private static final Integer[] ENDS = {0, null, null, null, null, null, null, null, null, null, null, 0};
    private static final Integer[] GREAT = {MAX, MIN, MAX, MAX, null, MAX, 0, MAX, -1, MAX, -2, MAX};
    private static final Integer[][] STATES = {EMPTY, FULL, EVEN, ODD, ENDS, GREAT};

    // One fault can show in thousands of calls; the first few tell enough.
    private static final int PRINTED_PER_SENTENCE = 5;

    private static String sentence = "";
    private static int wrongInSentence = 0;
    private static int wrong = 0;
    private static int sentences = 0;

    // ---- what every test uses

    private static void due(String call, long got, long want) {
        if (got != want) {
            tellWrong(call + " answered " + got + ", due is " + want);
        }
    }

    private static void due(String call, boolean got, boolean want) {
        due(call, got ? 1 : 0, want ? 1 : 0);
    }

    private static void tellWrong(String words) {
        wrong++;
        wrongInSentence++;
        if (wrongInSentence <= PRINTED_PER_SENTENCE) {
            System.out.println(sentence + ": " + words);
        }
    }

    private interface Test {
        void run() throws ReflectiveOperationException;
    }

    private static void test(String words, Test test) {
        sentence = words;
        wrongInSentence = 0;
        sentences++;
        try {
            test.run();
        } catch (ReflectiveOperationException | RuntimeException | StackOverflowError e) {
            tellWrong(e.toString());
        }
    }

    private static FlashMap mapOf(int spare, Integer[] state) {
        FlashMap x = new FlashMap(spare);
        for (int p = 0; p < 12; p++) {
            if (state[p] != null) {
                x.write(p, state[p]);
            }
        }
        return x;
    }

    /** The same state, but older values of every page lie on the flash, and the lacks are trims. */
    private static FlashMap wornMapOf(int spare, Integer[] state) {
        FlashMap x = new FlashMap(spare);
        for (int p = 11; p >= 0; p--) {
            x.write(p, -1000 - p);
        }
        for (int p = 0; p < 12; p++) {
            if (state[p] == null) {
                x.trim(p);
            } else {
                x.write(p, state[p]);
            }
        }
        return x;
    }

    private static int usedIn(Integer[] state) {
        int count = 0;
        for (Integer value : state) {
            count += value == null ? 0 : 1;
        }
        return count;
    }

    private static int had(Integer[] state, int p) {
        return state[p] == null ? 0 : 1;
    }

    /** Asks for every page, in 24 calls. */
    private static void dueState(String after, FlashMap x, Integer[] state) {
        for (int p = 0; p < 12; p++) {
            due(after + ", has(" + p + ")", x.has(p), state[p] != null);
            due(after + ", read(" + p + ")", x.read(p), state[p] == null ? 0 : state[p]);
        }
    }

    /** The same again after a power cut, since a change could be hidden on the flash until then. */
    private static void dueStateOnFlash(String after, FlashMap x, Integer[] state) {
        dueState(after, x, state);
        due(after + ", powerCut()", x.powerCut(), usedIn(state));
        dueState(after + ", powerCut()", x, state);
    }

    /** A refused call answers BAD and changes no value, whatever the state, also when it comes often. */
    private static void dueRefused(String name, ToIntFunction<FlashMap> call) {
        for (Integer[] state : STATES) {
            FlashMap x = mapOf(1, state);
            for (int i = 0; i < 50; i++) {
                due(name, call.applyAsInt(x), BAD);
            }
            dueStateOnFlash(name, x, state);
        }
    }

    private static Object inside(FlashMap x, String name) throws ReflectiveOperationException {
        Field field = FlashMap.class.getDeclaredField(name);
        field.setAccessible(true);
        return field.get(x);
    }

    /**
     * No answer shows whether the power went. So this makes the working memory say, against the flash,
     * that page 1 has the value of page 0: has(1) is true then until a power cut loses that memory.
     */
    private static void markWorkingMemory(FlashMap x) throws ReflectiveOperationException {
        int[] newest = (int[]) inside(x, "newest");
        newest[1] = newest[0];
    }

    private static int[] flashKinds(FlashMap x) throws ReflectiveOperationException {
        return ((int[]) inside(x, "kind")).clone();
    }

    private static int erasedBlocks(FlashMap x) throws ReflectiveOperationException {
        int[] kind = flashKinds(x);
        int count = 0;
        for (int first = 0; first < 32; first += 4) {
            count += kind[first] + kind[first + 1] + kind[first + 2] + kind[first + 3] == 0 ? 1 : 0;
        }
        return count;
    }

    private static int programmedPages(FlashMap x) throws ReflectiveOperationException {
        int count = 0;
        for (int kind : flashKinds(x)) {
            count += kind == 0 ? 0 : 1;
        }
        return count;
    }

    // ---- "What it is" and "Terms"

    private static void the512thCall() {
        for (int spare = 1; spare <= 3; spare++) {
            FlashMap writes = mapOf(spare, FULL);
            for (int i = 13; i <= 511; i++) {
                writes.write(i % 12, i);
            }
            due("read(7) as call 512 after writes", writes.read(7), 511);

            FlashMap fills = mapOf(spare, FULL);
            for (int i = 13; i <= 511; i++) {
                due("fill as call " + i, fills.fill(i % 12, 0, 11), 12);
            }
            due("total() as call 512 after fills", fills.total(), 12 * 101);

            FlashMap torns = mapOf(spare, FULL);
            for (int i = 13; i <= 511; i++) {
                due("torn as call " + i, torns.torn(i % 12, i), i % 12);
            }
            due("total() as call 512 after torns", torns.total(), 12 * 105 + 6);

            FlashMap exchanges = mapOf(spare, FULL);
            for (int i = 13; i <= 511; i++) {
                due("exchange as call " + i, exchanges.exchange(0, 11), 2);
            }
            due("read(0) as call 512 after exchanges", exchanges.read(0), 111);
        }
    }

    private static void the512thCallAfterTrims() {
        for (int spare = 1; spare <= 3; spare++) {
            FlashMap x = mapOf(spare, FULL);
            for (int i = 13; i <= 510; i += 2) {
                due("trim as call " + i, x.trim(i % 11), 1);
                due("write as call " + (i + 1), x.write(i % 11, i), 0);
            }
            due("trim(11) as call 511", x.trim(11), 1);
            due("powerCut() as call 512", x.powerCut(), 11);
        }
    }

    private static void twelvePages() {
        FlashMap x = new FlashMap(1);
        for (int p = 0; p <= 11; p++) {
            due("write(" + p + ")", x.write(p, 100 + p), 0);
        }
        dueStateOnFlash("all 12 written", x, FULL);
        due("write(-1)", x.write(-1, 5), BAD);
        due("write(12)", x.write(12, 5), BAD);
        dueStateOnFlash("no page -1 and no page 12", x, FULL);
    }

    private static void anyIntOrNone() {
        for (int p = 0; p < 12; p++) {
            for (int value : EDGE_VALUES) {
                FlashMap x = new FlashMap(1);
                due("has(" + p + ") before", x.has(p), false);
                x.write(p, value);
                Integer[] state = new Integer[12];
                state[p] = value;
                dueStateOnFlash("write(" + p + ", " + value + ")", x, state);
                x.trim(p);
                dueStateOnFlash("trim(" + p + ")", x, EMPTY);
            }
        }
    }

    private static void inTheBeginning() {
        for (int spare : SPARES) {
            String of = "new FlashMap(" + spare + ")";
            FlashMap x = new FlashMap(spare);
            due(of + ".used()", x.used(), 0);
            due(of + ".total()", x.total(), 0);
            due(of + ".nextUsed(-1)", x.nextUsed(-1), NONE);
            dueStateOnFlash(of, x, EMPTY);
        }
    }

    /** After every number of records, so also where a block or the whole flash is just full. */
    private static void flashIsNotSeen() {
        for (int spare = 1; spare <= 3; spare++) {
            for (int pages = 1; pages <= 12; pages++) {
                for (int records = 0; records <= 100; records++) {
                    flashIsNotSeenAfter(spare, pages, records);
                }
            }
        }
    }

    private static void flashIsNotSeenAfter(int spare, int pages, int records) {
        String after = "spare " + spare + ", " + records + " writes over " + pages + " pages";
        FlashMap x = new FlashMap(spare);
        Integer[] state = new Integer[12];
        for (int i = 0; i < records; i++) {
            int p = 11 - i % pages;
            due(after + ", write " + i, x.write(p, i), had(state, p));
            state[p] = i;
        }
        dueState(after, x, state);
        due(after + ", powerCut()", x.powerCut(), usedIn(state));
        dueState(after + ", powerCut()", x, state);
        due(after + ", torn(11)", x.torn(11, -7), 11);
        dueState(after + ", torn(11)", x, state);
        due(after + ", trim(11)", x.trim(11), had(state, 11));
        state[11] = null;
        dueStateOnFlash(after + ", trim(11)", x, state);
        due(after + ", write(0)", x.write(0, -8), had(state, 0));
        state[0] = -8;
        dueStateOnFlash(after + ", write(0)", x, state);
    }

    // ---- promise 1

    private static void allErased() throws ReflectiveOperationException {
        for (int spare : SPARES) {
            FlashMap x = new FlashMap(spare);
            due("flash pages of new FlashMap(" + spare + ")", flashKinds(x).length, 8 * 4);
            due("erased blocks of new FlashMap(" + spare + ")", erasedBlocks(x), 8);
        }
    }

    /** The fewest erased blocks of a long run are the clamped spare: fewer never, and none is wasted. */
    private static void spareIsClamped() throws ReflectiveOperationException {
        for (int spare : SPARES) {
            int fewest = 8;
            FlashMap x = new FlashMap(spare);
            for (int i = 0; i < 512; i++) {
                x.write(i % 12, i);
                fewest = Math.min(fewest, erasedBlocks(x));
            }
            due("fewest erased blocks with spare " + spare, fewest, Math.max(1, Math.min(3, spare)));
        }
    }

    private static void spareShowsInNoAnswer() {
        long[] first = answersOfALongRun(1);
        for (int spare : SPARES) {
            long[] answers = answersOfALongRun(spare);
            for (int i = 0; i < first.length; i++) {
                due("call " + (i + 1) + " with spare " + spare, answers[i], first[i]);
            }
        }
    }

    private static long[] answersOfALongRun(int spare) {
        FlashMap x = new FlashMap(spare);
        long[] answers = new long[512];
        for (int i = 0; i < answers.length; i++) {
            int p = i * 7 % 12;
            int q = i * 5 % 11;
            // 17 calls in turn, so that each kind of call meets every page and fill level.
            switch (i % 17) {
                case 0, 4, 7, 12 -> answers[i] = x.write(p, i * 1000003);
                case 1 -> answers[i] = x.total();
                case 2 -> answers[i] = x.torn(q, i);
                case 3, 14 -> answers[i] = x.read(p);
                case 5 -> answers[i] = x.exchange(p, q);
                case 6 -> answers[i] = x.powerCut();
                case 8 -> answers[i] = x.trim(q);
                case 9 -> answers[i] = x.has(q) ? 1 : 0;
                case 10 -> answers[i] = x.nextUsed(q);
                case 11 -> answers[i] = x.used();
                case 13 -> answers[i] = x.fill(p, q / 2, q);
                case 15 -> answers[i] = x.torn(p, i);
                default -> answers[i] = x.total();
            }
        }
        return answers;
    }

    // ---- promise 2

    private static void writeOutside() {
        for (int p : OUTSIDE) {
            dueRefused("write(" + p + ", 5)", x -> x.write(p, 5));
        }
    }

    private static void writeAnswers() {
        for (int p = 0; p < 12; p++) {
            for (int value : EDGE_VALUES) {
                FlashMap x = new FlashMap(1);
                String call = "write(" + p + ", " + value + ")";
                due(call + " on no value", x.write(p, value), 0);
                due(call + " on the same value", x.write(p, value), 1);
                due(call + " once more", x.write(p, value), 1);
                x.powerCut();
                due(call + " after powerCut()", x.write(p, value), 1);
                x.trim(p);
                due(call + " after trim", x.write(p, value), 0);
                x.trim(p);
                x.powerCut();
                due(call + " after trim and powerCut()", x.write(p, value), 0);
            }
        }
    }

    // ---- promise 3

    private static void tornSpoilsAndCuts() throws ReflectiveOperationException {
        for (int p = 0; p < 12; p++) {
            FlashMap x = mapOf(1, EVEN);
            int before = programmedPages(x);
            markWorkingMemory(x);
            x.torn(p, 5);
            due("torn(" + p + "), flash pages spoiled", programmedPages(x) - before, 1);
            due("torn(" + p + "), working memory kept", x.has(1), false);
        }
    }

    private static void tornChangesNoValue() {
        for (Integer[] state : STATES) {
            for (int p = 0; p < 12; p++) {
                for (int value : EDGE_VALUES) {
                    String call = "torn(" + p + ", " + value + ")";
                    FlashMap x = mapOf(2, state);
                    x.torn(p, value);
                    dueStateOnFlash(call, x, state);
                    FlashMap worn = wornMapOf(2, state);
                    worn.torn(p, value);
                    dueStateOnFlash("worn, " + call, worn, state);
                }
            }
        }
    }

    /** Far more torn writes than flash pages, and none of them takes room for good from the writes. */
    private static void tornOftenChangesNoValue() {
        for (Integer[] start : STATES) {
            for (int spare = 1; spare <= 3; spare++) {
                Integer[] state = start.clone();
                FlashMap x = mapOf(spare, state);
                for (int i = 0; i < 200; i++) {
                    x.torn(i % 12, i);
                    int p = i * 5 % 12;
                    due("read(" + p + ") after torn " + i, x.read(p), state[p] == null ? 0 : state[p]);
                    if (i % 50 == 49) {
                        due("write(" + p + ") after torn " + i, x.write(p, i), had(state, p));
                        state[p] = i;
                    }
                }
                dueStateOnFlash("many torn", x, state);
            }
        }
    }

    private static void tornOutside() {
        for (int p : OUTSIDE) {
            dueRefused("torn(" + p + ", 5)", x -> x.torn(p, 5));
        }
    }

    private static void tornOutsideKeepsThePower() throws ReflectiveOperationException {
        for (int p : OUTSIDE) {
            FlashMap x = mapOf(1, EVEN);
            int[] before = flashKinds(x);
            markWorkingMemory(x);
            x.torn(p, 5);
            due("torn(" + p + "), working memory kept", x.has(1), true);
            due("torn(" + p + "), flash left alone", Arrays.equals(before, flashKinds(x)), true);
        }
    }

    private static void tornAnswersP() {
        for (Integer[] state : STATES) {
            for (int p = 0; p < 12; p++) {
                FlashMap x = mapOf(1, state);
                for (int i = 0; i < 100; i++) {
                    due("torn(" + p + ", " + i + ")", x.torn(p, i), p);
                }
            }
        }
    }

    // ---- promise 4

    private static void trimOutside() {
        for (int p : OUTSIDE) {
            dueRefused("trim(" + p + ")", x -> x.trim(p));
        }
    }

    private static void trimAnswers() {
        for (int p = 0; p < 12; p++) {
            FlashMap empty = new FlashMap(1);
            due("trim(" + p + ") in the beginning", empty.trim(p), 0);
            for (Integer[] state : STATES) {
                FlashMap x = mapOf(1, state);
                due("trim(" + p + ")", x.trim(p), had(state, p));
                due("trim(" + p + ") once more", x.trim(p), 0);
                x.powerCut();
                due("trim(" + p + ") after powerCut()", x.trim(p), 0);
                x.write(p, 0);
                x.torn(p, 5);
                due("trim(" + p + ") of the value 0 after torn", x.trim(p), 1);
            }
        }
    }

    /** The trimmed page's older values lie on the flash still; none may come back. */
    private static void trimTakesAwayForGood() {
        for (Integer[] state : STATES) {
            for (int p = 0; p < 12; p++) {
                FlashMap x = mapOf(1, state);
                x.write(p, 1);
                x.write(p, 2);
                x.trim(p);
                Integer[] left = state.clone();
                left[p] = null;
                dueStateOnFlash("trim(" + p + ")", x, left);
                x.torn(p, 3);
                dueState("torn after trim(" + p + ")", x, left);
                dueStaysAway(x, p);
            }
        }
    }

    /** Every fourth write goes to a seldom page, so that every block holds something and all get reclaimed. */
    private static void dueStaysAway(FlashMap x, int p) {
        for (int i = 0; i < 120; i++) {
            int often = (p + 1) % 12;
            int seldom = (p + 2 + i / 4 % 10) % 12;
            x.write(i % 4 == 3 ? seldom : often, i);
            x.powerCut();
            due("has(" + p + ") after trim and write " + i, x.has(p), false);
        }
    }

    // ---- promise 5

    private static void powerCutChangesNoValue() throws ReflectiveOperationException {
        for (Integer[] state : STATES) {
            FlashMap x = mapOf(1, state);
            FlashMap worn = wornMapOf(1, state);
            for (int i = 0; i < 5; i++) {
                x.powerCut();
                dueState("powerCut()", x, state);
                worn.powerCut();
                dueState("worn, powerCut()", worn, state);
            }
        }
        FlashMap marked = mapOf(1, EVEN);
        markWorkingMemory(marked);
        marked.powerCut();
        due("working memory kept", marked.has(1), false);
    }

    private static void powerCutAnswers() {
        for (Integer[] state : STATES) {
            due("powerCut()", mapOf(1, state).powerCut(), usedIn(state));
            due("worn, powerCut()", wornMapOf(1, state).powerCut(), usedIn(state));
        }
        FlashMap x = new FlashMap(1);
        for (int p = 0; p < 12; p++) {
            due("powerCut() with " + p, x.powerCut(), p);
            x.write(p, 0);
        }
        due("powerCut() with all", x.powerCut(), 12);
        for (int p = 11; p >= 0; p--) {
            x.trim(p);
            due("powerCut() with " + p + " left", x.powerCut(), p);
        }
    }

    // ---- promises 6, 7 and 8

    private static void hasOutside() {
        for (Integer[] state : STATES) {
            FlashMap x = mapOf(1, state);
            for (int p : OUTSIDE) {
                due("has(" + p + ")", x.has(p), false);
            }
        }
    }

    private static void hasInside() {
        for (Integer[] state : STATES) {
            FlashMap x = mapOf(1, state);
            FlashMap worn = wornMapOf(1, state);
            for (int p = 0; p < 12; p++) {
                due("has(" + p + ")", x.has(p), state[p] != null);
                due("worn, has(" + p + ")", worn.has(p), state[p] != null);
            }
        }
    }

    private static void readOfNone() {
        for (int p = 0; p < 12; p++) {
            FlashMap x = new FlashMap(1);
            due("read(" + p + ") in the beginning", x.read(p), 0);
            x.torn(p, 5);
            due("read(" + p + ") after torn", x.read(p), 0);
            x.write(p, 6);
            due("read(" + p + ") with a value", x.read(p), 6);
            x.trim(p);
            due("read(" + p + ") after trim", x.read(p), 0);
            x.write((p + 1) % 12, 7);
            x.exchange(p, (p + 1) % 12);
            due("read of what the exchange left", x.read((p + 1) % 12), 0);
            x.fill((p + 1) % 12, p, p);
            due("read(" + p + ") after fill with none", x.read(p), 0);
        }
    }

    private static void readOutside() {
        for (Integer[] state : STATES) {
            FlashMap x = mapOf(1, state);
            for (int p : OUTSIDE) {
                due("read(" + p + ")", x.read(p), 0);
            }
        }
    }

    private static void usedFromNoneToAll() {
        FlashMap x = new FlashMap(1);
        for (int p = 0; p < 12; p++) {
            due("used() with " + p, x.used(), p);
            x.write(p, 0);
            x.write(p, 0);
            x.write(12, 5);
        }
        due("used() with all", x.used(), 12);
        for (int p = 11; p >= 0; p--) {
            x.trim(p);
            x.trim(p);
            x.trim(-1);
            due("used() with " + p + " left", x.used(), p);
        }
    }

    // ---- promise 9

    private static int nextUsedIn(Integer[] state, int p) {
        for (long q = 0; q < 12; q++) {
            if (q > p && state[(int) q] != null) {
                return (int) q;
            }
        }
        return NONE;
    }

    private static void smallestAbove() {
        for (Integer[] state : STATES) {
            FlashMap x = mapOf(1, state);
            FlashMap worn = wornMapOf(1, state);
            for (int p = -1; p <= 12; p++) {
                due("nextUsed(" + p + ")", x.nextUsed(p), nextUsedIn(state, p));
                due("worn, nextUsed(" + p + ")", worn.nextUsed(p), nextUsedIn(state, p));
            }
        }
        for (int only = 0; only < 12; only++) {
            FlashMap x = new FlashMap(1);
            x.write(only, 0);
            due("nextUsed just below " + only, x.nextUsed(only - 1), only);
            due("nextUsed(" + only + ") at the only one", x.nextUsed(only), NONE);
        }
    }

    private static void nextUsedOfAnyInt() {
        for (int p : OUTSIDE) {
            due("full, nextUsed(" + p + ")", mapOf(1, FULL).nextUsed(p), p < 0 ? 0 : NONE);
            due("odd, nextUsed(" + p + ")", mapOf(1, ODD).nextUsed(p), p < 0 ? 1 : NONE);
            due("empty, nextUsed(" + p + ")", mapOf(1, EMPTY).nextUsed(p), NONE);
        }
    }

    private static void nextUsedNone() {
        FlashMap x = new FlashMap(1);
        due("empty, nextUsed(-1)", x.nextUsed(-1), NONE);
        x.write(11, 5);
        due("nextUsed(10) with 11", x.nextUsed(10), 11);
        due("nextUsed(11) with 11", x.nextUsed(11), NONE);
        x.trim(11);
        due("nextUsed(10) after trim(11)", x.nextUsed(10), NONE);
        due("nextUsed(-1) after trim(11)", x.nextUsed(-1), NONE);
        x.powerCut();
        due("nextUsed(-1) after powerCut()", x.nextUsed(-1), NONE);
        x.write(0, 5);
        due("nextUsed(0) with 0", x.nextUsed(0), NONE);
        due("the constant NONE", FlashMap.NONE, NONE);
    }

    // ---- promise 10

    private static void totalIsALong() {
        FlashMap x = new FlashMap(1);
        x.write(0, MAX);
        x.write(1, 1);
        due("total() just above an int", x.total(), 2147483648L);
        x.write(0, MIN);
        x.write(1, -1);
        due("total() just below an int", x.total(), -2147483649L);
        long sum = 0;
        FlashMap greatest = new FlashMap(1);
        FlashMap smallest = new FlashMap(1);
        for (int p = 0; p < 12; p++) {
            greatest.write(p, MAX);
            smallest.write(p, MIN);
            sum++;
            due("total() of " + sum + " greatest", greatest.total(), sum * MAX);
            due("total() of " + sum + " smallest", smallest.total(), sum * MIN);
        }
    }

    private static void totalOfAll() {
        FlashMap x = new FlashMap(1);
        due("total() in the beginning", x.total(), 0);
        long sum = 0;
        for (int p = 0; p < 12; p++) {
            x.write(p, 1 << p);
            sum += 1 << p;
            due("total() up to " + p, x.total(), sum);
        }
        for (int p = 0; p < 12; p++) {
            x.trim(p);
            sum -= 1 << p;
            due("total() after trim(" + p + ")", x.total(), sum);
        }
    }

    // ---- promises 11 and 13

    private static void exchangeOfValuesOrLack() {
        for (Integer[] state : STATES) {
            for (int p = 0; p < 12; p++) {
                for (int q = 0; q < 12; q++) {
                    String call = "exchange(" + p + ", " + q + ")";
                    Integer[] changed = state.clone();
                    changed[p] = state[q];
                    changed[q] = state[p];
                    FlashMap x = mapOf(1, state);
                    x.exchange(p, q);
                    dueStateOnFlash(call, x, changed);
                    FlashMap worn = wornMapOf(1, state);
                    worn.exchange(p, q);
                    dueStateOnFlash("worn, " + call, worn, changed);
                }
            }
        }
    }

    private static void exchangeOutside() {
        for (int wrongPage : OUTSIDE) {
            for (int p : new int[] {0, 1, 11}) {
                dueRefused("exchange(" + wrongPage + ", " + p + ")", x -> x.exchange(wrongPage, p));
                dueRefused("exchange(" + p + ", " + wrongPage + ")", x -> x.exchange(p, wrongPage));
            }
            dueRefused("exchange(" + wrongPage + ", itself)", x -> x.exchange(wrongPage, wrongPage));
            dueRefused("exchange(" + wrongPage + ", 12)", x -> x.exchange(wrongPage, 12));
        }
    }

    private static void exchangeAnswers() {
        for (Integer[] state : STATES) {
            for (int p = 0; p < 12; p++) {
                for (int q = 0; q < 12; q++) {
                    FlashMap x = mapOf(1, state);
                    int want = had(state, p) + had(state, q);
                    due("exchange(" + p + ", " + q + ")", x.exchange(p, q), want);
                    due("exchange(" + q + ", " + p + ") back", x.exchange(q, p), want);
                }
            }
        }
    }

    /** At every fill level of the flash, so also where the two records fall into two blocks. */
    private static void exchangeIsWhole() {
        for (int spare = 1; spare <= 3; spare++) {
            for (int records = 0; records < 80; records++) {
                FlashMap x = mapOf(spare, GREAT);
                for (int i = 0; i < records; i++) {
                    x.torn(i % 12, i);
                }
                x.exchange(3, 4);
                x.exchange(6, 1);
                Integer[] changed = GREAT.clone();
                changed[3] = null;
                changed[4] = MAX;
                changed[6] = MIN;
                changed[1] = 0;
                String after = "exchanges after " + records + " torn";
                dueStateOnFlash(after, x, changed);
                x.torn(3, 7);
                dueState(after + ", torn(3)", x, changed);
                x.torn(4, 8);
                dueStateOnFlash(after + ", torn(4)", x, changed);
            }
        }
    }

    private static void exchangeWithItselfChangesNothing() throws ReflectiveOperationException {
        for (Integer[] state : STATES) {
            for (int p = 0; p < 12; p++) {
                FlashMap x = mapOf(1, state);
                for (int i = 0; i < 100; i++) {
                    x.exchange(p, p);
                }
                dueStateOnFlash("exchange(" + p + ", " + p + ")", x, state);
                due("flash pages programmed", programmedPages(x), usedIn(state));
            }
        }
    }

    private static void exchangeWithItselfAnswers() {
        for (int p = 0; p < 12; p++) {
            for (Integer[] state : STATES) {
                due("exchange(" + p + ", " + p + ")", mapOf(1, state).exchange(p, p), 2 * had(state, p));
            }
            FlashMap x = mapOf(1, FULL);
            x.trim(p);
            due("exchange(" + p + ", itself) after trim", x.exchange(p, p), 0);
            x.write(p, 0);
            due("exchange(" + p + ", itself) with the value 0", x.exchange(p, p), 2);
        }
    }

    // ---- promise 12

    private static void fillCopiesValueOrLack() {
        for (Integer[] state : STATES) {
            for (int p = 0; p < 12; p++) {
                for (int q = 0; q < 12; q++) {
                    for (int r = q; r < 12; r++) {
                        dueFilled(state, p, q, r);
                    }
                }
            }
        }
    }

    private static void dueFilled(Integer[] state, int p, int q, int r) {
        String call = "fill(" + p + ", " + q + ", " + r + ")";
        Integer[] changed = state.clone();
        Arrays.fill(changed, q, r + 1, state[p]);
        FlashMap x = mapOf(1, state);
        x.fill(p, q, r);
        dueStateOnFlash(call, x, changed);
        FlashMap worn = wornMapOf(1, state);
        worn.fill(p, q, r);
        dueStateOnFlash("worn, " + call, worn, changed);
    }

    private static void fillOutside() {
        for (int out : OUTSIDE) {
            dueRefused("fill(" + out + ", 0, 11)", x -> x.fill(out, 0, 11));
            dueRefused("fill(" + out + ", 4, 4)", x -> x.fill(out, 4, 4));
            dueRefused("fill(2, " + out + ", 11)", x -> x.fill(2, out, 11));
            dueRefused("fill(1, " + out + ", 0)", x -> x.fill(1, out, 0));
            dueRefused("fill(2, 0, " + out + ")", x -> x.fill(2, 0, out));
            dueRefused("fill(1, 11, " + out + ")", x -> x.fill(1, 11, out));
            dueRefused("fill(2, " + out + ", itself)", x -> x.fill(2, out, out));
            dueRefused("fill(" + out + ", itself, itself)", x -> x.fill(out, out, out));
        }
        dueRefused("fill(0, -1, 12)", x -> x.fill(0, -1, 12));
        dueRefused("fill(0, MIN, MAX)", x -> x.fill(0, MIN, MAX));
        dueRefused("fill(0, MAX, MIN)", x -> x.fill(0, MAX, MIN));
    }

    private static void fillBackwards() {
        for (int q = 1; q < 12; q++) {
            for (int r = 0; r < q; r++) {
                int from = q;
                int to = r;
                dueRefused("fill(0, " + q + ", " + r + ")", x -> x.fill(0, from, to));
                dueRefused("fill(1, " + q + ", " + r + ")", x -> x.fill(1, from, to));
                dueRefused("fill(11, " + q + ", " + r + ")", x -> x.fill(11, from, to));
            }
        }
    }

    private static void fillAnswers() {
        for (Integer[] state : STATES) {
            for (int p = 0; p < 12; p++) {
                for (int q = 0; q < 12; q++) {
                    for (int r = q; r < 12; r++) {
                        FlashMap x = mapOf(1, state);
                        String call = "fill(" + p + ", " + q + ", " + r + ")";
                        due(call, x.fill(p, q, r), r - q + 1);
                        due(call + " once more", x.fill(p, q, r), r - q + 1);
                    }
                }
            }
        }
    }

    // ---- LANGUAGE.md

    /** What the calls after the 512th answer is free, so this looks at no answer. */
    private static void noCallThrows() {
        int[] pages = {0, 1, 5, 10, 11, -1, 12, MIN, MAX};
        for (int spare : SPARES) {
            FlashMap x = new FlashMap(spare);
            for (int round = 0; round < 20; round++) {
                for (int p : pages) {
                    for (int q : pages) {
                        x.write(p, round);
                        x.torn(q, round);
                        x.exchange(p, q);
                        x.fill(q, p, 11);
                        x.fill(p, 0, q);
                        x.fill(5, p, q);
                        x.trim(q);
                        x.has(p);
                        x.read(q);
                        x.nextUsed(p);
                        x.used();
                        x.total();
                        x.powerCut();
                    }
                }
            }
        }
    }

    public static void main(String[] args) {
        test("at most 512 calls after it has been made", SentencesTest::the512thCall);
        test("at most 512 calls after it has been made (trims)", SentencesTest::the512thCallAfterTrims);
        test("12 LOGICAL PAGES, 0 to 11", SentencesTest::twelvePages);
        test("each has a value, which is any int, or none", SentencesTest::anyIntOrNone);
        test("In the beginning none has one", SentencesTest::inTheBeginning);
        test("nothing of this can be seen from outside", SentencesTest::flashIsNotSeen);

        test("1: Flash memory of 8 blocks of 4 pages, all erased", SentencesTest::allErased);
        test("1: spare, clamped into 1..3", SentencesTest::spareIsClamped);
        test("1: it shows in no answer", SentencesTest::spareShowsInNoAnswer);

        test("2: p outside 0..11: BAD", SentencesTest::writeOutside);
        test("2: Answers 1 if it had a value before, else 0", SentencesTest::writeAnswers);

        test("3: a flash page is spoiled, then the power goes", SentencesTest::tornSpoilsAndCuts);
        test("3: No value changes", SentencesTest::tornChangesNoValue);
        test("3: No value changes (many torn)", SentencesTest::tornOftenChangesNoValue);
        test("3: p outside 0..11: BAD", SentencesTest::tornOutside);
        test("3: (and the power stays)", SentencesTest::tornOutsideKeepsThePower);
        test("3: Else answers p", SentencesTest::tornAnswersP);

        test("4: Takes the value of logical page p away", SentencesTest::trimTakesAwayForGood);
        test("4: p outside 0..11: BAD", SentencesTest::trimOutside);
        test("4: Answers 1 if it had one, else 0", SentencesTest::trimAnswers);

        test("5: No value changes", SentencesTest::powerCutChangesNoValue);
        test("5: Answers the number of pages that have a value", SentencesTest::powerCutAnswers);

        test("6: Whether logical page p has a value", SentencesTest::hasInside);
        test("6: false for p outside 0..11", SentencesTest::hasOutside);
        test("7: 0 if it has none", SentencesTest::readOfNone);
        test("7: or p is outside 0..11", SentencesTest::readOutside);
        test("8: The number of pages that have a value", SentencesTest::usedFromNoneToAll);

        test("9: The smallest logical page above p", SentencesTest::smallestAbove);
        test("9: (any int)", SentencesTest::nextUsedOfAnyInt);
        test("9: NONE if there is none", SentencesTest::nextUsedNone);

        test("10: The sum of the values of all logical pages", SentencesTest::totalOfAll);
        test("10: as a long", SentencesTest::totalIsALong);

        test("11: Exchanges the values (or the lack of them)", SentencesTest::exchangeOfValuesOrLack);
        test("11: p or q outside 0..11: BAD", SentencesTest::exchangeOutside);
        test("11: Else answers how many of the two have a value", SentencesTest::exchangeAnswers);
        test("11: A power cut can't come in between", SentencesTest::exchangeIsWhole);

        test("12: Copies the value, or the lack of it, to all pages from q to r", SentencesTest::fillCopiesValueOrLack);
        test("12: p, q or r outside 0..11: BAD", SentencesTest::fillOutside);
        test("12: or q > r: BAD", SentencesTest::fillBackwards);
        test("12: Else answers r - q + 1", SentencesTest::fillAnswers);

        test("13: exchange of a page with itself changes nothing", SentencesTest::exchangeWithItselfChangesNothing);
        test("13: answers 2 if it has a value, else 0", SentencesTest::exchangeWithItselfAnswers);

        test("LANGUAGE.md 7: No call may ever throw", SentencesTest::noCallThrows);

        System.out.println(sentences + " sentences: " + (wrong == 0 ? "all hold" : wrong + " answers are not as due"));
        if (wrong != 0) {
            System.exit(1);
        }
    }
}
