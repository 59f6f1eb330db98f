/** Short ways for tests to fill a desk and to tell what it answers. */
final class Desks {
    static final int LEAST = Integer.MIN_VALUE;
    static final int GREATEST = Integer.MAX_VALUE;

    /** No numbers of tasks: beside 0 .. 5, and those that shifts take for 0 .. 5. */
    static final int[] NO_TASKS = {-1, 6, 7, 31, 32, 33, 37, 64, -26, -27, -32, -64, 1 << 16,
        LEAST, LEAST + 1, GREATEST};

    /** No numbers of units: beside 0 .. 23, and those that shifts take for 0 .. 23. */
    static final int[] NO_UNITS = {-1, 24, 25, 31, 32, 33, 55, 64, -8, -9, -31, -32, -64, 1 << 16,
        LEAST, LEAST + 1, GREATEST};

    private Desks() { }

    static int packed(int must, int may, int worth) {
        return must + 8 * may + 64 * worth;
    }

    static boolean isOfForm(int packed) {
        for (int worth = 1; worth <= 9; worth++)
            for (int may = 0; may <= 6; may++)
                for (int must = 0; must <= 6; must++)
                    if (packed == packed(must, may, worth)) return true;
        return false;
    }

    /** A new desk with these tasks, each as r, d, must, may, worth. */
    static ImpreciseDesk desk(int[]... tasks) {
        ImpreciseDesk x = new ImpreciseDesk();
        for (int[] task : tasks) bring(x, task);
        return x;
    }

    static int[] task(int r, int d, int must, int may, int worth) {
        return new int[] {r, d, must, may, worth};
    }

    static int bring(ImpreciseDesk x, int[] task) {
        return x.bring(task[0], task[1], packed(task[2], task[3], task[4]));
    }

    static void blockSpan(ImpreciseDesk x, int from, int upTo) {
        for (int t = from; t < upTo; t++) x.block(t, true);
    }

    /** The first plan as 24 characters: a task's number, or a point for none. */
    static String plan(ImpreciseDesk x) {
        StringBuilder line = new StringBuilder();
        for (int t = 0; t < 24; t++) {
            int j = x.at(t);
            line.append(j == ImpreciseDesk.NONE ? "." : String.valueOf(j));
        }
        return line.toString();
    }

    /** What a desk answers to the calls that change nothing; 66 calls. */
    static String look(ImpreciseDesk x) {
        StringBuilder line = new StringBuilder(plan(x));
        line.append(" tasks ").append(x.tasks()).append(" blocked ").append(x.blocked());
        line.append(" loss ").append(x.loss()).append(" idle ").append(x.idle());
        line.append(" freeable ").append(x.freeable(0, 24)).append(' ').append(x.freeable(0, 12));
        line.append(" kept");
        for (int j = 0; j < 6; j++) line.append(' ').append(x.kept(j));
        line.append(" greatestMust");
        for (int j = 0; j < 6; j++) line.append(' ').append(x.greatestMust(j));
        line.append(" lossWithout");
        for (int t = 0; t < 24; t++) line.append(' ').append(x.lossWithout(t));
        return line.append('.').toString();
    }

    /** Unblocks everything first: a changed may or worth can hide behind blocked units. */
    static String lookUnblocked(ImpreciseDesk x) {
        for (int t = 0; t < 24; t++) x.block(t, false);
        return look(x);
    }

    /** Takes all tasks away and fills the desk again: all numbers must be free and clean. */
    static String lookEmptied(ImpreciseDesk x) {
        StringBuilder line = new StringBuilder();
        for (int j = 0; j < 6; j++) line.append(x.take(j)).append(' ');
        line.append(look(x)).append(' ');
        for (int j = 0; j < 6; j++) line.append(x.bring(j, j + 2, packed(1, 1, 1))).append(' ');
        return line.append(look(x)).toString();
    }
}
