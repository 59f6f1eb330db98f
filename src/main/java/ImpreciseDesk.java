/** Fits tasks with a part that must be done and a part that may be left out into time. */
public final class ImpreciseDesk {
    public static final int BAD = -1;
    public static final int FULL = -2;
    public static final int REFUSED = -3;
    public static final int NONE = -1;

    private static final int UNITS = 24;
    private static final int TASKS = 6;
    private static final int GROUPS = 1 << TASKS;
    private static final int ALL_UNITS = (1 << UNITS) - 1;
    private static final int GREATEST_PART = 6;
    private static final int GREATEST_WORTH = 9;

    /** Bit j for task j. */
    private int present;
    /** Bit t for a unit t that is not blocked. */
    private int open;

    // A number that no task has stands here with zeros everywhere: it then wants
    // nothing and loses nothing, so that the sums below need not leave it out.
    private final int[] window = new int[TASKS];
    private final int[] must = new int[TASKS];
    private final int[] may = new int[TASKS];
    private final int[] worth = new int[TASKS];

    /** Scratch of a single call: how many units each task is to be given. */
    private final int[] share = new int[TASKS];

    public ImpreciseDesk() {
        present = 0;
        open = ALL_UNITS;
    }

    public int bring(int r, int d, int packed) {
        if (!isSpan(r, d) || !isPacked(packed)) {
            return BAD;
        }
        int j = leastFreeNumber();
        if (j == NONE) {
            return FULL;
        }
        int newMust = mustOf(packed);
        window[j] = spanUnits(r, d);
        if (!fitsWithMust(j, newMust)) {
            window[j] = 0;
            return REFUSED;
        }
        setParts(j, packed);
        present |= 1 << j;
        return j;
    }

    public boolean take(int j) {
        if (!isTask(j)) {
            return false;
        }
        present &= ~(1 << j);
        window[j] = 0;
        setParts(j, 0);
        return true;
    }

    public int block(int t, boolean on) {
        if (!isUnit(t)) {
            return BAD;
        }
        if (!on) {
            open |= 1 << t;
            return t;
        }
        int rest = open & ~(1 << t);
        shareMusts();
        if (!sharesFit(rest)) {
            return REFUSED;
        }
        open = rest;
        return t;
    }

    public int change(int j, int packed) {
        if (!isTask(j) || !isPacked(packed)) {
            return BAD;
        }
        int newMust = mustOf(packed);
        if (!fitsWithMust(j, newMust)) {
            return REFUSED;
        }
        setParts(j, packed);
        return j;
    }

    public int tasks() {
        return present;
    }

    public int blocked() {
        return ALL_UNITS & ~open;
    }

    public int loss() {
        shareBest(open);
        return lossOfShares();
    }

    public int kept(int j) {
        if (!isTask(j)) {
            return NONE;
        }
        shareBest(open);
        return share[j] - must[j];
    }

    public int at(int t) {
        if (!isUnit(t)) {
            return NONE;
        }
        shareBest(open);
        int holder = NONE;
        for (int u = 0; u <= t; u++) {
            holder = giveUnit(u);
        }
        return holder;
    }

    public int greatestMust(int j) {
        if (!isTask(j)) {
            return NONE;
        }
        int greatest = must[j];
        while (greatest < GREATEST_PART && fitsWithMust(j, greatest + 1)) {
            greatest++;
        }
        return greatest;
    }

    public int lossWithout(int t) {
        if (!isUnit(t)) {
            return NONE;
        }
        int rest = open & ~(1 << t);
        shareMusts();
        if (!sharesFit(rest)) {
            return NONE;
        }
        shareBest(rest);
        return lossOfShares();
    }

    public int freeable(int a, int b) {
        if (!isSpan(a, b)) {
            return NONE;
        }
        // A plan that keeps nothing leaves most units. The sets of units that such
        // plans can leave are the independent sets of a matroid, so that freeing
        // one unit after the other, wherever it can be done, frees the most.
        shareMusts();
        int rest = open;
        int freed = 0;
        for (int t = a; t < b; t++) {
            int unit = 1 << t;
            if ((rest & unit) != 0 && sharesFit(rest & ~unit)) {
                rest &= ~unit;
                freed++;
            }
        }
        return freed;
    }

    public int idle() {
        shareBest(open);
        int left = countUnits(open);
        for (int j = 0; j < TASKS; j++) {
            left -= share[j];
        }
        return left;
    }

    private static boolean isSpan(int from, int upTo) {
        return 0 <= from && from < upTo && upTo <= UNITS;
    }

    private static boolean isUnit(int t) {
        return 0 <= t && t < UNITS;
    }

    private boolean isTask(int j) {
        return 0 <= j && j < TASKS && (present >> j & 1) != 0;
    }

    private static boolean isPacked(int packed) {
        int w = worthOf(packed);
        return mustOf(packed) <= GREATEST_PART && mayOf(packed) <= GREATEST_PART
                && 1 <= w && w <= GREATEST_WORTH;
    }

    private static int mustOf(int packed) {
        return packed & 7;
    }

    private static int mayOf(int packed) {
        return packed >> 3 & 7;
    }

    /** The sign is shifted in, so that a negative number has no worth of 1 or more. */
    private static int worthOf(int packed) {
        return packed >> 6;
    }

    private void setParts(int j, int packed) {
        must[j] = mustOf(packed);
        may[j] = mayOf(packed);
        worth[j] = worthOf(packed);
    }

    private int leastFreeNumber() {
        for (int j = 0; j < TASKS; j++) {
            if ((present >> j & 1) == 0) {
                return j;
            }
        }
        return NONE;
    }

    private static int spanUnits(int from, int upTo) {
        return (1 << upTo) - (1 << from);
    }

    private static int countUnits(int units) {
        int count = 0;
        for (int t = 0; t < UNITS; t++) {
            count += units >> t & 1;
        }
        return count;
    }

    private void shareMusts() {
        for (int j = 0; j < TASKS; j++) {
            share[j] = must[j];
        }
    }

    /** Whether there would be a plan if task j had this must. */
    private boolean fitsWithMust(int j, int newMust) {
        shareMusts();
        share[j] = newMust;
        return sharesFit(open);
    }

    /**
     * Whether these units can be given so that each task has its share. By Hall's
     * theorem they can when no group of tasks wants more units than it can reach.
     */
    private boolean sharesFit(int units) {
        for (int group = 1; group < GROUPS; group++) {
            int wanted = 0;
            int reach = 0;
            for (int j = 0; j < TASKS; j++) {
                if ((group >> j & 1) != 0) {
                    wanted += share[j];
                    reach |= window[j];
                }
            }
            if (wanted > countUnits(reach & units)) {
                return false;
            }
        }
        return true;
    }

    /**
     * Makes the shares those of the best plans over these units, which must have
     * room for all musts. The shares that fit are those of a polymatroid, so that
     * giving each task as much as still fits, in the order of tasks, has the least
     * loss; it also has the greatest numbers kept in the dictionary order.
     */
    private void shareBest(int units) {
        shareMusts();
        for (int w = GREATEST_WORTH; w >= 1; w--) {
            for (int j = 0; j < TASKS; j++) {
                if (worth[j] == w) {
                    growShare(j, units);
                }
            }
        }
    }

    private void growShare(int j, int units) {
        for (int more = 0; more < may[j]; more++) {
            share[j]++;
            if (!sharesFit(units)) {
                share[j]--;
                return;
            }
        }
    }

    private int lossOfShares() {
        int sum = 0;
        for (int j = 0; j < TASKS; j++) {
            sum += worth[j] * (must[j] + may[j] - share[j]);
        }
        return sum;
    }

    /**
     * Gives unit u to the least task that leaves room in the later units for what the
     * shares still want, and answers that task; NONE when the unit is left. The shares
     * must fit into the open units from u on.
     */
    private int giveUnit(int u) {
        if ((open >> u & 1) == 0) {
            return NONE;
        }
        int later = open & (-2 << u);
        for (int j = 0; j < TASKS; j++) {
            if (share[j] > 0 && (window[j] >> u & 1) != 0) {
                share[j]--;
                if (sharesFit(later)) {
                    return j;
                }
                share[j]++;
            }
        }
        return NONE;
    }
}
