/** Each promise of the document on its own: ordinary inputs, the edges it names, and wrong inputs. */
public final class PromisesTest {
    private static final int MIN = Integer.MIN_VALUE;
    private static final int MAX = Integer.MAX_VALUE;
    private static final int[] WRONG_PAGES = {-1, 12, 13, -12, 32, 256, -256, MIN, MAX, MIN + 1, MAX - 1};
    private static int wrong = 0;

    private static void due(String call, long got, long want) {
        if (got != want) {
            wrong++;
            System.out.println(call + " answered " + got + ", due is " + want);
        }
    }

    private static void due(String call, boolean got, boolean want) {
        due(call, got ? 1 : 0, want ? 1 : 0);
    }

    /** A map in which page p has the value 100 + p for every even p. */
    private static FlashMap evens() {
        FlashMap x = new FlashMap(2);
        for (int p = 0; p < 12; p += 2) {
            x.write(p, 100 + p);
        }
        return x;
    }

    private static void dueEvens(String after, FlashMap x) {
        for (int p = 0; p < 12; p++) {
            due(after + ", has(" + p + ")", x.has(p), p % 2 == 0);
            due(after + ", read(" + p + ")", x.read(p), p % 2 == 0 ? 100 + p : 0);
        }
    }

    private static void newObject() {
        for (int spare : new int[] {MIN, -1, 0, 1, 2, 3, 4, MAX}) {
            FlashMap x = new FlashMap(spare);
            String of = "1: new FlashMap(" + spare + ")";
            due(of + ".used()", x.used(), 0);
            due(of + ".total()", x.total(), 0);
            due(of + ".nextUsed(-1)", x.nextUsed(-1), FlashMap.NONE);
            due(of + ".powerCut()", x.powerCut(), 0);
            for (int p = 0; p < 12; p++) {
                due(of + ".has(" + p + ")", x.has(p), false);
                due(of + ".read(" + p + ")", x.read(p), 0);
            }
        }
        due("1: BAD", FlashMap.BAD, -1);
        due("1: NONE", FlashMap.NONE, -2);
    }

    /** All 12 pages in use and far more writes than there are flash pages. */
    private static void spareShowsNowhere() {
        for (int spare : new int[] {MIN, 0, 1, 2, 3, 4, MAX}) {
            FlashMap x = new FlashMap(spare);
            for (int i = 0; i < 480; i++) {
                int p = i * 5 % 12;
                due("1: spare " + spare + ", write " + i, x.write(p, i), i < 12 ? 0 : 1);
            }
            for (int i = 468; i < 480; i++) {
                int p = i * 5 % 12;
                due("1: spare " + spare + ", read(" + p + ")", x.read(p), i);
            }
        }
    }

    private static void write() {
        for (int p = 0; p < 12; p++) {
            FlashMap x = new FlashMap(1);
            due("2: first write(" + p + ")", x.write(p, 5), 0);
            due("2: second write(" + p + ")", x.write(p, 6), 1);
            due("2: read after it", x.read(p), 6);
            due("2: used after it", x.used(), 1);
            due("2: trim", x.trim(p), 1);
            due("2: write after trim", x.write(p, 7), 0);
            due("2: read after that", x.read(p), 7);
        }
        for (int value : new int[] {0, -1, -2, 1, MIN, MAX}) {
            FlashMap x = new FlashMap(1);
            due("2: write of " + value, x.write(3, value), 0);
            due("2: has after write of " + value, x.has(3), true);
            due("2: read after write of " + value, x.read(3), value);
            due("2: powerCut after write of " + value, x.powerCut(), 1);
            due("2: read after powerCut", x.read(3), value);
        }
        FlashMap x = evens();
        for (int p : WRONG_PAGES) {
            due("2: write(" + p + ", 1)", x.write(p, 1), FlashMap.BAD);
        }
        dueEvens("2: wrong writes", x);
    }

    private static void torn() {
        for (int p = 0; p < 12; p++) {
            FlashMap x = evens();
            for (int i = 0; i < 100; i++) {
                due("3: torn(" + p + ")", x.torn(p, i), p);
            }
            dueEvens("3: torn(" + p + ")", x);
            due("3: write after torn", x.write(p, 9), p % 2 == 0 ? 1 : 0);
            due("3: torn after write", x.torn(p, 10), p);
            due("3: read after torn", x.read(p), 9);
            due("3: trim after torn", x.trim(p), 1);
            due("3: torn after trim", x.torn(p, 11), p);
            due("3: has after torn", x.has(p), false);
        }
        FlashMap x = evens();
        for (int p : WRONG_PAGES) {
            due("3: torn(" + p + ", 1)", x.torn(p, 1), FlashMap.BAD);
        }
        dueEvens("3: wrong torns", x);
    }

    private static void trim() {
        for (int p = 0; p < 12; p++) {
            FlashMap x = evens();
            int had = p % 2 == 0 ? 1 : 0;
            due("4: trim(" + p + ")", x.trim(p), had);
            due("4: has after it", x.has(p), false);
            due("4: read after it", x.read(p), 0);
            due("4: used after it", x.used(), 6 - had);
            due("4: powerCut after it", x.powerCut(), 6 - had);
            due("4: second trim(" + p + ")", x.trim(p), 0);
        }
        FlashMap x = evens();
        for (int p : WRONG_PAGES) {
            due("4: trim(" + p + ")", x.trim(p), FlashMap.BAD);
        }
        dueEvens("4: wrong trims", x);
    }

    /** A trimmed value must stay away while the flash is used up and reclaimed around it. */
    private static void trimStays() {
        for (int spare = 1; spare <= 3; spare++) {
            FlashMap x = new FlashMap(spare);
            for (int p = 0; p < 12; p++) {
                x.write(p, 1000 + p);
            }
            for (int p = 0; p < 11; p++) {
                x.trim(p);
            }
            for (int i = 0; i < 150; i++) {
                x.write(11, i);
                due("4: powerCut after trims, write " + i, x.powerCut(), 1);
                due("4: total after trims, write " + i, x.total(), i);
            }
        }
    }

    private static void powerCut() {
        FlashMap x = evens();
        for (int i = 0; i < 20; i++) {
            due("5: powerCut", x.powerCut(), 6);
        }
        dueEvens("5: powerCut", x);
        x.write(4, 1);
        x.write(4, 2);
        x.trim(2);
        x.write(1, 0);
        due("5: powerCut", x.powerCut(), 6);
        due("5: the newest value", x.read(4), 2);
        due("5: the trimmed page", x.has(2), false);
        due("5: the page with 0", x.has(1), true);
        x.fill(4, 0, 11);
        due("5: powerCut, all full", x.powerCut(), 12);
        due("5: total, all full", x.total(), 24);
    }

    private static void hasAndRead() {
        FlashMap x = evens();
        dueEvens("6, 7", x);
        for (int p : WRONG_PAGES) {
            due("6: has(" + p + ")", x.has(p), false);
            due("7: read(" + p + ")", x.read(p), 0);
        }
    }

    private static void used() {
        FlashMap x = new FlashMap(3);
        for (int p = 0; p < 12; p++) {
            due("8: used()", x.used(), p);
            x.write(p, 0);
            x.write(p, 0);
        }
        due("8: used()", x.used(), 12);
        for (int p = 0; p < 12; p++) {
            x.trim(p);
            x.trim(p);
            due("8: used()", x.used(), 11 - p);
        }
    }

    private static void nextUsed() {
        FlashMap x = evens();
        for (int p = -1; p < 10; p++) {
            due("9: nextUsed(" + p + ")", x.nextUsed(p), (p + 2) / 2 * 2);
        }
        for (int p : new int[] {-2, -100, MIN, MIN + 1}) {
            due("9: nextUsed(" + p + ")", x.nextUsed(p), 0);
        }
        for (int p : new int[] {10, 11, 12, 100, MAX - 1, MAX}) {
            due("9: nextUsed(" + p + ")", x.nextUsed(p), FlashMap.NONE);
        }
        x.write(11, 0);
        due("9: nextUsed(10) with 11", x.nextUsed(10), 11);
        due("9: nextUsed(11) with 11", x.nextUsed(11), FlashMap.NONE);
        x.trim(0);
        due("9: nextUsed(MIN) without 0", x.nextUsed(MIN), 2);
    }

    private static void total() {
        FlashMap x = evens();
        due("10: total()", x.total(), 630);
        x.trim(10);
        due("10: total() after trim", x.total(), 520);
        x.write(0, -520);
        due("10: total() with a negative", x.total(), -100);
        x.write(0, MAX);
        x.fill(0, 0, 11);
        due("10: total() of the greatest", x.total(), 12L * MAX);
        x.write(0, MIN);
        x.fill(0, 0, 11);
        due("10: total() of the smallest", x.total(), 12L * MIN);
    }

    private static void exchange() {
        for (int p = 0; p < 12; p++) {
            for (int q = 0; q < 12; q++) {
                FlashMap x = evens();
                int hadP = p % 2 == 0 ? 1 : 0;
                int hadQ = q % 2 == 0 ? 1 : 0;
                String call = "11, 13: exchange(" + p + ", " + q + ")";
                due(call, x.exchange(p, q), hadP + hadQ);
                due(call + ", powerCut", x.powerCut(), 6);
                due(call + ", has p", x.has(p), hadQ == 1);
                due(call + ", has q", x.has(q), hadP == 1);
                due(call + ", read p", x.read(p), hadQ * (100 + q));
                due(call + ", read q", x.read(q), hadP * (100 + p));
                due(call + ", total", x.total(), 630);
                x.exchange(q, p);
                dueEvens(call + " and back", x);
            }
        }
        FlashMap x = evens();
        for (int p : WRONG_PAGES) {
            due("11: exchange(0, " + p + ")", x.exchange(0, p), FlashMap.BAD);
            due("11: exchange(" + p + ", 0)", x.exchange(p, 0), FlashMap.BAD);
            due("11: exchange(" + p + ", " + p + ")", x.exchange(p, p), FlashMap.BAD);
        }
        dueEvens("11: wrong exchanges", x);
    }

    private static void exchangeWithItself() {
        FlashMap x = evens();
        for (int i = 0; i < 40; i++) {
            due("13: exchange(4, 4)", x.exchange(4, 4), 2);
            due("13: exchange(5, 5)", x.exchange(5, 5), 0);
        }
        dueEvens("13: exchange with itself", x);
        due("13: powerCut", x.powerCut(), 6);
        dueEvens("13: powerCut", x);
    }

    private static void fill() {
        for (int p = 0; p < 12; p++) {
            for (int q = 0; q < 12; q++) {
                for (int r = 0; r < 12; r++) {
                    fillOnce(p, q, r);
                }
            }
        }
        FlashMap x = evens();
        for (int p : WRONG_PAGES) {
            due("12: fill(" + p + ", 0, 1)", x.fill(p, 0, 1), FlashMap.BAD);
            due("12: fill(0, " + p + ", 11)", x.fill(0, p, 11), FlashMap.BAD);
            due("12: fill(0, 0, " + p + ")", x.fill(0, 0, p), FlashMap.BAD);
            due("12: fill(0, " + p + ", " + p + ")", x.fill(0, p, p), FlashMap.BAD);
        }
        due("12: fill(0, MIN, MAX)", x.fill(0, MIN, MAX), FlashMap.BAD);
        dueEvens("12: wrong fills", x);
    }

    private static void fillOnce(int p, int q, int r) {
        FlashMap x = evens();
        String call = "12: fill(" + p + ", " + q + ", " + r + ")";
        due(call, x.fill(p, q, r), q > r ? FlashMap.BAD : r - q + 1);
        int used = x.used();
        due(call + ", powerCut", x.powerCut(), used);
        for (int page = 0; page < 12; page++) {
            int from = page >= q && page <= r ? p : page;
            due(call + ", has(" + page + ")", x.has(page), from % 2 == 0);
            due(call + ", read(" + page + ")", x.read(page), from % 2 == 0 ? 100 + from : 0);
        }
    }

    public static void main(String[] args) {
        newObject();
        spareShowsNowhere();
        write();
        torn();
        trim();
        trimStays();
        powerCut();
        hasAndRead();
        used();
        nextUsed();
        total();
        exchange();
        exchangeWithItself();
        fill();
        System.out.println(wrong == 0 ? "all answers are as due" : wrong + " answers are not as due");
        if (wrong != 0) {
            System.exit(1);
        }
    }
}
