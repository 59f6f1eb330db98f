import java.util.ArrayList;
import java.util.Arrays;
import java.util.Comparator;
import java.util.List;

/**
 * The document's words taken literally: goes through all numbers of units that plans can
 * give, found unit by unit, and picks by the definitions of the terms. It shares neither
 * code nor theory (Hall's theorem, greedy choice) with the class under test.
 */
final class ReferenceDesk {
    private static final int UNITS = 24;
    private static final int TASKS = 6;
    private static final int NEVER = 1000;

    private final boolean[] there = new boolean[TASKS];
    private final int[] from = new int[TASKS];
    private final int[] upTo = new int[TASKS];
    private final int[] must = new int[TASKS];
    private final int[] may = new int[TASKS];
    private final int[] worth = new int[TASKS];
    private final boolean[] blocked = new boolean[UNITS];

    private int[] knownBest = null;
    private int[] knownFirst = null;

    int bring(int r, int d, int packed) {
        if (r < 0 || d <= r || d > UNITS || !isOfForm(packed)) return -1;
        int j = 0;
        while (j < TASKS && there[j]) j++;
        if (j == TASKS) return -2;
        there[j] = true;
        from[j] = r;
        upTo[j] = d;
        unpack(j, packed);
        if (!hasPlan()) {
            there[j] = false;
            return -3;
        }
        forget();
        return j;
    }

    boolean take(int j) {
        if (!isThere(j)) return false;
        there[j] = false;
        forget();
        return true;
    }

    int block(int t, boolean on) {
        if (t < 0 || t >= UNITS) return -1;
        boolean before = blocked[t];
        blocked[t] = on;
        if (!hasPlan()) {
            blocked[t] = before;
            return -3;
        }
        forget();
        return t;
    }

    int change(int j, int packed) {
        if (!isThere(j) || !isOfForm(packed)) return -1;
        int before = must[j] + 8 * may[j] + 64 * worth[j];
        unpack(j, packed);
        if (!hasPlan()) {
            unpack(j, before);
            return -3;
        }
        forget();
        return j;
    }

    int tasks() {
        int bits = 0;
        for (int j = 0; j < TASKS; j++) if (there[j]) bits |= 1 << j;
        return bits;
    }

    int blocked() {
        int bits = 0;
        for (int t = 0; t < UNITS; t++) if (blocked[t]) bits |= 1 << t;
        return bits;
    }

    int loss() {
        return lossOf(best());
    }

    int kept(int j) {
        return isThere(j) ? best()[j] - must[j] : -1;
    }

    int at(int t) {
        if (t < 0 || t >= UNITS) return -1;
        int holder = first()[t];
        return holder == 9 ? -1 : holder;
    }

    int greatestMust(int j) {
        if (!isThere(j)) return -1;
        int before = must[j];
        int greatest = -1;
        for (int m = 0; m <= 6; m++) {
            must[j] = m;
            if (hasPlan()) greatest = m;
        }
        must[j] = before;
        return greatest;
    }

    int lossWithout(int t) {
        if (t < 0 || t >= UNITS) return -1;
        boolean before = blocked[t];
        blocked[t] = true;
        int answer = hasPlan() ? lossOf(findBest()) : -1;
        blocked[t] = before;
        return answer;
    }

    int freeable(int a, int b) {
        if (a < 0 || b <= a || b > UNITS) return -1;
        int[] tops = tops();
        int[] fewest = fewestGiven(tops, a, b);
        int least = NEVER;
        for (int code = 0; code < fewest.length; code++) {
            int[] given = decode(code, tops);
            if (isEnough(given)) least = Math.min(least, fewest[code]);
        }
        int open = 0;
        for (int t = a; t < b; t++) if (!blocked[t]) open++;
        return open - least;
    }

    int idle() {
        int left = 0;
        int[] plan = first();
        for (int t = 0; t < UNITS; t++) if (!blocked[t] && plan[t] == 9) left++;
        return left;
    }

    private boolean isThere(int j) {
        return j >= 0 && j < TASKS && there[j];
    }

    private static boolean isOfForm(int packed) {
        for (int w = 1; w <= 9; w++)
            for (int y = 0; y <= 6; y++)
                for (int m = 0; m <= 6; m++)
                    if (packed == m + 8 * y + 64 * w) return true;
        return false;
    }

    private void unpack(int j, int packed) {
        must[j] = packed % 8;
        may[j] = packed / 8 % 8;
        worth[j] = packed / 64;
    }

    private void forget() {
        knownBest = null;
        knownFirst = null;
    }

    private boolean mayHave(int j, int t) {
        return there[j] && !blocked[t] && from[j] <= t && t < upTo[j];
    }

    private boolean hasPlan() {
        int[] musts = new int[TASKS];
        for (int j = 0; j < TASKS; j++) musts[j] = there[j] ? must[j] : 0;
        int[] fewest = fewestGiven(musts, 0, 0);
        return fewest[fewest.length - 1] < NEVER;
    }

    private int[] tops() {
        int[] tops = new int[TASKS];
        for (int j = 0; j < TASKS; j++) tops[j] = there[j] ? must[j] + may[j] : 0;
        return tops;
    }

    private static int[] strides(int[] tops) {
        int[] strides = new int[TASKS + 1];
        strides[0] = 1;
        for (int j = 0; j < TASKS; j++) strides[j + 1] = strides[j] * (tops[j] + 1);
        return strides;
    }

    private static int[] decode(int code, int[] tops) {
        int[] given = new int[TASKS];
        for (int j = 0; j < TASKS; j++) {
            given[j] = code % (tops[j] + 1);
            code /= tops[j] + 1;
        }
        return given;
    }

    private boolean isEnough(int[] given) {
        for (int j = 0; j < TASKS; j++) if (there[j] && given[j] < must[j]) return false;
        return true;
    }

    /**
     * For each way to give the tasks 0 .. tops units each: the least number of units of
     * the span from a up to b that this takes, NEVER if it can't be done.
     */
    private int[] fewestGiven(int[] tops, int a, int b) {
        int[] strides = strides(tops);
        int[] fewest = new int[strides[TASKS]];
        Arrays.fill(fewest, NEVER);
        fewest[0] = 0;
        for (int t = 0; t < UNITS; t++) {
            int cost = a <= t && t < b ? 1 : 0;
            boolean anyone = false;
            for (int j = 0; j < TASKS; j++) anyone |= mayHave(j, t) && tops[j] > 0;
            if (!anyone) continue;
            // from the greatest code down, so that the unit is given once only
            for (int code = fewest.length - 1; code > 0; code--) {
                int least = fewest[code];
                for (int j = 0; j < TASKS; j++)
                    if (mayHave(j, t) && code / strides[j] % (tops[j] + 1) > 0)
                        least = Math.min(least, fewest[code - strides[j]] + cost);
                fewest[code] = Math.min(least, NEVER);
            }
        }
        return fewest;
    }

    private int lossOf(int[] given) {
        int loss = 0;
        for (int j = 0; j < TASKS; j++)
            if (there[j]) loss += worth[j] * (must[j] + may[j] - given[j]);
        return loss;
    }

    private int[] best() {
        if (knownBest == null) knownBest = findBest();
        return knownBest;
    }

    private int[] findBest() {
        List<Integer> order = new ArrayList<>();
        for (int j = 0; j < TASKS; j++) if (there[j]) order.add(j);
        order.sort(Comparator.comparingInt((Integer j) -> -worth[j]).thenComparingInt(j -> j));
        int[] tops = tops();
        int[] fewest = fewestGiven(tops, 0, 0);
        int[] best = null;
        for (int code = 0; code < fewest.length; code++) {
            if (fewest[code] >= NEVER) continue;
            int[] given = decode(code, tops);
            if (isEnough(given) && (best == null || isBetter(given, best, order))) best = given;
        }
        return best;
    }

    private boolean isBetter(int[] given, int[] than, List<Integer> order) {
        int difference = lossOf(given) - lossOf(than);
        if (difference != 0) return difference < 0;
        for (int j : order) if (given[j] != than[j]) return given[j] > than[j];
        return false;
    }

    private int[] first() {
        if (knownFirst == null) knownFirst = findFirst();
        return knownFirst;
    }

    /** Walks through the units by what is still to be given, 9 standing for a unit left. */
    private int[] findFirst() {
        int[] tops = best();
        int[] strides = strides(tops);
        boolean[][] canEnd = new boolean[UNITS + 1][strides[TASKS]];
        canEnd[UNITS][0] = true;
        for (int t = UNITS - 1; t >= 0; t--) {
            for (int code = 0; code < strides[TASKS]; code++) {
                canEnd[t][code] = canEnd[t + 1][code];
                for (int j = 0; j < TASKS; j++)
                    if (mayHave(j, t) && code / strides[j] % (tops[j] + 1) > 0)
                        canEnd[t][code] |= canEnd[t + 1][code - strides[j]];
            }
        }
        int[] plan = new int[UNITS];
        int code = strides[TASKS] - 1;
        for (int t = 0; t < UNITS; t++) {
            plan[t] = 9;
            for (int j = TASKS - 1; j >= 0; j--)
                if (mayHave(j, t) && code / strides[j] % (tops[j] + 1) > 0
                        && canEnd[t + 1][code - strides[j]]) plan[t] = j;
            if (plan[t] != 9) code -= strides[plan[t]];
        }
        return plan;
    }
}
