/**
 * Twelve logical pages kept as a log on flash memory of 8 blocks of 4 flash pages.
 *
 * Every change is a new record on the next erased flash page; the newest record of a logical page
 * is the one that counts. Taking a value away is a record too, since an older value that is still
 * on the flash would otherwise come back with the next power cut.
 */
public final class FlashMap {
    public static final int BAD = -1;
    public static final int NONE = -2;

    private static final int LOGICAL_PAGES = 12;
    private static final int BLOCKS = 8;
    private static final int BLOCK_PAGES = 4;
    private static final int FLASH_PAGES = 32;
    private static final int MOST_SPARE = 3;

    // What a flash page holds.
    private static final int ERASED = 0;
    private static final int VALUE = 1;
    private static final int LACK = 2;
    private static final int SPOILED = 3;

    private static final int NOWHERE = -1;

    // The flash: this outlives a power cut.
    private final int[] kind = new int[FLASH_PAGES];
    private final int[] owner = new int[FLASH_PAGES];
    private final int[] content = new int[FLASH_PAGES];
    private final long[] stamp = new long[FLASH_PAGES];

    // The working memory: a power cut loses it, and start() finds it again from the flash.
    private final int[] newest = new int[LOGICAL_PAGES];
    private final int[] programmed = new int[BLOCKS];
    private int active;
    private long nextStamp;

    private final int spare;

    public FlashMap(int spare) {
        this.spare = spare < 1 ? 1 : spare > MOST_SPARE ? MOST_SPARE : spare;
        start();
    }

    public int write(int p, int value) {
        if (isOutside(p)) {
            return BAD;
        }
        int before = countOf(p);
        append(p, VALUE, value);
        return before;
    }

    public int torn(int p, int value) {
        if (isOutside(p)) {
            return BAD;
        }
        append(p, SPOILED, value);
        start();
        return p;
    }

    public int trim(int p) {
        if (isOutside(p)) {
            return BAD;
        }
        int before = countOf(p);
        change(p, false, 0);
        return before;
    }

    public int powerCut() {
        start();
        return used();
    }

    public boolean has(int p) {
        if (isOutside(p)) {
            return false;
        }
        int at = newest[p];
        return at != NOWHERE && kind[at] == VALUE;
    }

    public int read(int p) {
        return has(p) ? content[newest[p]] : 0;
    }

    public int used() {
        int count = 0;
        for (int p = 0; p < LOGICAL_PAGES; p++) {
            count += countOf(p);
        }
        return count;
    }

    public int nextUsed(int p) {
        for (int q = 0; q < LOGICAL_PAGES; q++) {
            if (q > p && has(q)) {
                return q;
            }
        }
        return NONE;
    }

    public long total() {
        long sum = 0;
        for (int p = 0; p < LOGICAL_PAGES; p++) {
            sum += read(p);
        }
        return sum;
    }

    public int exchange(int p, int q) {
        if (isOutside(p) || isOutside(q)) {
            return BAD;
        }
        int count = countOf(p) + countOf(q);
        if (p != q) {
            boolean hadP = has(p);
            int valueP = read(p);
            boolean hadQ = has(q);
            int valueQ = read(q);
            change(p, hadQ, valueQ);
            change(q, hadP, valueP);
        }
        return count;
    }

    public int fill(int p, int q, int r) {
        if (isOutside(p) || isOutside(q) || isOutside(r) || q > r) {
            return BAD;
        }
        boolean had = has(p);
        int value = read(p);
        for (int page = q; page <= r; page++) {
            change(page, had, value);
        }
        return r - q + 1;
    }

    private boolean isOutside(int p) {
        return p < 0 || p >= LOGICAL_PAGES;
    }

    private int countOf(int p) {
        return has(p) ? 1 : 0;
    }

    private void change(int p, boolean toValue, int value) {
        if (toValue) {
            append(p, VALUE, value);
        } else if (has(p)) {
            append(p, LACK, 0);
        }
    }

    private void append(int p, int newKind, int value) {
        if (!hasRoom()) {
            openBlock();
            if (erasedBlocks() < spare) {
                int block = emptiestFullBlock();
                reclaim(block);
            }
        }
        program(p, newKind, value);
    }

    private boolean hasRoom() {
        return active != NOWHERE && programmed[active] < BLOCK_PAGES;
    }

    private void openBlock() {
        active = NOWHERE;
        for (int block = 0; block < BLOCKS; block++) {
            if (programmed[block] == 0) {
                active = block;
                return;
            }
        }
    }

    private int erasedBlocks() {
        int count = 0;
        for (int block = 0; block < BLOCKS; block++) {
            if (programmed[block] == 0 && block != active) {
                count++;
            }
        }
        return count;
    }

    private int emptiestFullBlock() {
        int best = NOWHERE;
        int fewest = BLOCK_PAGES + 1;
        for (int block = 0; block < BLOCKS; block++) {
            int live = liveIn(block);
            if (programmed[block] == BLOCK_PAGES && live < fewest) {
                best = block;
                fewest = live;
            }
        }
        return best;
    }

    private int liveIn(int block) {
        int count = 0;
        for (int p = 0; p < LOGICAL_PAGES; p++) {
            if (isIn(newest[p], block)) {
                count++;
            }
        }
        return count;
    }

    private boolean isIn(int at, int block) {
        return at != NOWHERE && at / BLOCK_PAGES == block;
    }

    /**
     * Moves the live records of a full block to the block just opened, and erases the full one.
     * There is always room: only spare - 1 blocks are erased at this moment, so at least 5 full
     * ones share at most 12 live records, and the emptiest has at most 2.
     */
    private void reclaim(int block) {
        if (block == NOWHERE) {
            return;
        }
        for (int p = 0; p < LOGICAL_PAGES; p++) {
            int at = newest[p];
            if (isIn(at, block)) {
                program(p, kind[at], content[at]);
            }
        }
        eraseBlock(block);
    }

    private void eraseBlock(int block) {
        int first = block * BLOCK_PAGES;
        for (int at = first; at < first + BLOCK_PAGES; at++) {
            kind[at] = ERASED;
            owner[at] = 0;
            content[at] = 0;
            stamp[at] = 0;
        }
        programmed[block] = 0;
    }

    private void program(int p, int newKind, int value) {
        if (!hasRoom()) {
            return;
        }
        int at = active * BLOCK_PAGES + programmed[active];
        kind[at] = newKind;
        owner[at] = p;
        content[at] = value;
        stamp[at] = nextStamp;
        programmed[active]++;
        nextStamp++;
        if (newKind != SPOILED) {
            newest[p] = at;
        }
    }

    private void start() {
        forget();
        for (int at = 0; at < FLASH_PAGES; at++) {
            if (kind[at] != ERASED) {
                programmed[at / BLOCK_PAGES]++;
            }
            if (kind[at] == VALUE || kind[at] == LACK) {
                takeIn(at);
            }
        }
        for (int block = 0; block < BLOCKS; block++) {
            if (programmed[block] > 0 && programmed[block] < BLOCK_PAGES) {
                active = block;
            }
        }
    }

    private void forget() {
        for (int p = 0; p < LOGICAL_PAGES; p++) {
            newest[p] = NOWHERE;
        }
        for (int block = 0; block < BLOCKS; block++) {
            programmed[block] = 0;
        }
        active = NOWHERE;
        nextStamp = 1;
    }

    private void takeIn(int at) {
        int p = owner[at];
        // The flash is the one place from which an index comes unlooked at.
        if (isOutside(p)) {
            return;
        }
        if (newest[p] == NOWHERE || stamp[newest[p]] < stamp[at]) {
            newest[p] = at;
        }
        if (stamp[at] >= nextStamp) {
            nextStamp = stamp[at] + 1;
        }
    }
}
