/** Packs items into bins of one size. */
public final class BinDesk {
    public static final int NONE = -1;
    public static final int FULL = -2;

    private static final int MOST_ITEMS = 8;
    private static final int MOST_SIZE = 60;

    // Eight items have 4140 neat groupings, so no search comes near this bound.
    private static final int MOST_STEPS = 1000000;

    private final int[] sizes = new int[MOST_ITEMS];

    // The grouping that a search has in hand; of no meaning between two calls.
    private final int[] bins = new int[MOST_ITEMS];
    private final int[] loads = new int[MOST_ITEMS];

    // The best packing that packFirst has met, kept while its search goes on.
    private final int[] firstBins = new int[MOST_ITEMS];

    private int binSize;

    // Bit i for item i: an item that is gone leaves its size in sizes.
    private int present;

    public BinDesk(int size) {
        binSize = size < 1 ? 1 : size > MOST_SIZE ? MOST_SIZE : size;
    }

    public int add(int s) {
        if (!fitsAlone(s)) {
            return NONE;
        }
        for (int i = 0; i < MOST_ITEMS; i++) {
            if (!isIn(present, i)) {
                present = present | (1 << i);
                sizes[i] = s;
                return i;
            }
        }
        return FULL;
    }

    public boolean remove(int i) {
        if (!isItem(i)) {
            return false;
        }
        present = without(i);
        return true;
    }

    public boolean resize(int i, int s) {
        if (!isItem(i) || !fitsAlone(s)) {
            return false;
        }
        sizes[i] = s;
        return true;
    }

    public boolean setSize(int size) {
        if (size < 1 || size > MOST_SIZE || size < largest()) {
            return false;
        }
        binSize = size;
        return true;
    }

    public int size() {
        return binSize;
    }

    public int items() {
        return present;
    }

    public int sizeOf(int i) {
        return isItem(i) ? sizes[i] : NONE;
    }

    public int least() {
        return packFirst(present);
    }

    public int binOf(int i) {
        if (!isItem(i)) {
            return NONE;
        }
        packFirst(present);
        return firstBins[i];
    }

    public int leastWithout(int i) {
        if (!isItem(i)) {
            return NONE;
        }
        int others = without(i);
        return packFirst(others);
    }

    public int spare() {
        int count = packFirst(present);
        int most = 0;
        // With no items one more needs a bin of its own.
        boolean more = count > 0;
        startGroupings();
        for (int step = 0; more && step < MOST_STEPS; step++) {
            int burst = fillBins(present, binSize);
            if (burst == MOST_ITEMS && binsBefore(present, MOST_ITEMS) == count) {
                int room = binSize - lightest(count);
                most = room > most ? room : most;
            }
            more = nextGrouping(present, burst);
        }
        return most;
    }

    public int sizeFor(int n) {
        if (n < 1 || n > MOST_ITEMS || present == 0) {
            return NONE;
        }
        int best = MOST_ITEMS * MOST_SIZE + 1;
        boolean more = true;
        startGroupings();
        for (int step = 0; more && step < MOST_STEPS; step++) {
            // Only a size below the best one known is of use.
            int burst = fillBins(present, best - 1);
            if (burst == MOST_ITEMS && binsBefore(present, MOST_ITEMS) <= n) {
                best = heaviest();
            }
            more = nextGrouping(present, burst);
        }
        return best;
    }

    public boolean together(int i, int j) {
        if (!isItem(i) || !isItem(j) || i == j) {
            return false;
        }
        int count = packFirst(present);
        boolean more = true;
        startGroupings();
        for (int step = 0; more && step < MOST_STEPS; step++) {
            int burst = fillBins(present, binSize);
            if (burst == MOST_ITEMS && bins[i] == bins[j]
                    && binsBefore(present, MOST_ITEMS) == count) {
                return true;
            }
            more = nextGrouping(present, burst);
        }
        return false;
    }

    private static boolean isIn(int set, int i) {
        return (set & (1 << i)) != 0;
    }

    private boolean isItem(int i) {
        return i >= 0 && i < MOST_ITEMS && isIn(present, i);
    }

    private boolean fitsAlone(int s) {
        return s >= 1 && s <= binSize;
    }

    private int without(int i) {
        return present & ~(1 << i);
    }

    private int largest() {
        int most = 0;
        for (int i = 0; i < MOST_ITEMS; i++) {
            if (isIn(present, i) && sizes[i] > most) {
                most = sizes[i];
            }
        }
        return most;
    }

    /**
     * Leaves the first packing of the items of the set in firstBins and answers its count.
     * The packings come in dictionary order, so of those with one count the earliest is kept.
     */
    private int packFirst(int set) {
        int best = MOST_ITEMS + 1;
        boolean more = true;
        startGroupings();
        for (int step = 0; more && step < MOST_STEPS; step++) {
            int burst = fillBins(set, binSize);
            if (burst == MOST_ITEMS) {
                int count = binsBefore(set, MOST_ITEMS);
                if (count < best) {
                    best = count;
                    keepAsFirst();
                }
            }
            more = nextGrouping(set, burst);
        }
        return best;
    }

    private void keepAsFirst() {
        for (int i = 0; i < MOST_ITEMS; i++) {
            firstBins[i] = bins[i];
        }
    }

    private void startGroupings() {
        for (int i = 0; i < MOST_ITEMS; i++) {
            bins[i] = 0;
        }
    }

    /**
     * Goes on to the next neat grouping in dictionary order that differs at item last or before
     * it, and answers whether there is one. What overfills a bin at item last does so whatever
     * bins the later items get, so those groupings need no look.
     */
    private boolean nextGrouping(int set, int last) {
        for (int i = MOST_ITEMS - 1; i > 0; i--) {
            if (i <= last && isIn(set, i) && bins[i] < binsBefore(set, i)) {
                bins[i]++;
                for (int k = i + 1; k < MOST_ITEMS; k++) {
                    bins[k] = 0;
                }
                return true;
            }
        }
        return false;
    }

    /** The number of bins that the items of the set below item end have in a neat grouping. */
    private int binsBefore(int set, int end) {
        int count = 0;
        for (int i = 0; i < end; i++) {
            if (isIn(set, i) && bins[i] >= count) {
                count = bins[i] + 1;
            }
        }
        return count;
    }

    /** Answers the first item that overfills its bin, MOST_ITEMS when none does. */
    private int fillBins(int set, int room) {
        for (int bin = 0; bin < MOST_ITEMS; bin++) {
            loads[bin] = 0;
        }
        for (int i = 0; i < MOST_ITEMS; i++) {
            if (isIn(set, i)) {
                loads[bins[i]] += sizes[i];
                if (loads[bins[i]] > room) {
                    return i;
                }
            }
        }
        return MOST_ITEMS;
    }

    private int lightest(int count) {
        int low = loads[0];
        for (int bin = 1; bin < count; bin++) {
            low = loads[bin] < low ? loads[bin] : low;
        }
        return low;
    }

    private int heaviest() {
        int high = loads[0];
        for (int bin = 1; bin < MOST_ITEMS; bin++) {
            high = loads[bin] > high ? loads[bin] : high;
        }
        return high;
    }
}
