/** Each promise of the document by hand: ordinary inputs, the named edges, wrong inputs. */
public final class PromisesTest {
    private static final int LEAST = Desks.LEAST;
    private static final int GREATEST = Desks.GREATEST;
    private static final Checks CHECKS = new Checks();

    public static void main(String[] args) {
        newObject();
        bringNumbers();
        bringWrongWindows();
        bringWrongPacked();
        bringEdgesOfTheForm();
        bringAnswersByTheFirstThatApplies();
        bringRefused();
        take();
        takeFreesTheNumber();
        block();
        blockRefused();
        change();
        changeRefused();
        tasksAndBlocked();
        loss();
        keptPrefersWorthThenNumber();
        keptIsNotTradedForManySmallOnes();
        atTakesTheLeastNumbersFirst();
        atSkipsBlockedUnits();
        atDoesNotCountOnBlockedUnits();
        atGoesByNumberNotByWorth();
        greatestMust();
        greatestMustBesideOthers();
        lossWithout();
        lossWithoutChangesNothing();
        freeable();
        freeableMovesTasksOut();
        idle();
        objectsAreApart();
        wildArgumentsChangeNothing();
        CHECKS.end();
    }

    private static void due(String call, long got, long want) {
        CHECKS.due(call, got, want);
    }

    private static void due(String call, boolean got, boolean want) {
        CHECKS.due(call, got, want);
    }

    private static int packed(int must, int may, int worth) {
        return Desks.packed(must, may, worth);
    }

    private static void duePlan(String where, ImpreciseDesk x, String want) {
        CHECKS.duePlan(where, x, want);
    }

    private static void newObject() {
        ImpreciseDesk x = new ImpreciseDesk();
        due("new: tasks", x.tasks(), 0);
        due("new: blocked", x.blocked(), 0);
        due("new: loss", x.loss(), 0);
        due("new: idle", x.idle(), 24);
        due("new: freeable", x.freeable(0, 24), 24);
        for (int j = 0; j < 6; j++) {
            due("new: kept " + j, x.kept(j), -1);
            due("new: greatestMust " + j, x.greatestMust(j), -1);
            due("new: take " + j, x.take(j), false);
            due("new: change " + j, x.change(j, packed(0, 0, 1)), -1);
        }
        for (int t = 0; t < 24; t++) due("new: lossWithout " + t, x.lossWithout(t), 0);
        duePlan("new", x, "");
    }

    private static void bringNumbers() {
        ImpreciseDesk x = new ImpreciseDesk();
        for (int j = 0; j < 6; j++) due("bring number " + j, x.bring(0, 24, packed(1, 1, 1)), j);
        due("bring the seventh", x.bring(0, 24, packed(0, 0, 1)), -2);
        due("bring: tasks", x.tasks(), 63);
    }

    private static void bringWrongWindows() {
        ImpreciseDesk x = new ImpreciseDesk();
        int good = packed(0, 0, 1);
        int[] wrong = {-1, 5, 0, 25, 5, 5, 6, 5, 24, 24, 24, 25, 0, 0, 0, -1, LEAST, 3, 3, GREATEST,
            LEAST, GREATEST, GREATEST, LEAST, 32, 33, -32, -8};
        for (int k = 0; k < wrong.length; k += 2)
            due("bring window " + wrong[k] + ", " + wrong[k + 1], x.bring(wrong[k], wrong[k + 1], good), -1);
        due("wrong windows: tasks", x.tasks(), 0);
        due("bring 0, 1", x.bring(0, 1, good), 0);
        due("bring 23, 24", x.bring(23, 24, good), 1);
        due("bring 0, 24", x.bring(0, 24, good), 2);
    }

    private static void bringWrongPacked() {
        ImpreciseDesk x = new ImpreciseDesk();
        int[] wrong = {0, 63, packed(7, 0, 1), packed(0, 7, 1), packed(0, 0, 10), packed(6, 6, 10),
            -1, -64, -640, LEAST, GREATEST, LEAST + 64, 65536 + 64, (1 << 30) + 64, 639};
        for (int packed : wrong) due("bring packed " + packed, x.bring(0, 24, packed), -1);
        due("wrong packed: tasks", x.tasks(), 0);
        x.bring(0, 24, packed(1, 1, 1));
        for (int packed : wrong) due("change packed " + packed, x.change(0, packed), -1);
        due("wrong packed: kept", x.kept(0), 1);
    }

    private static void bringEdgesOfTheForm() {
        for (int must = 0; must <= 7; must++)
            for (int may = 0; may <= 7; may++)
                for (int worth = 0; worth <= 10; worth++) {
                    ImpreciseDesk x = new ImpreciseDesk();
                    boolean good = must < 7 && may < 7 && worth >= 1 && worth <= 9;
                    int packed = packed(must, may, worth);
                    due("form " + packed, x.bring(2, 10, packed), good ? 0 : -1);
                    int over = must + may - 8;
                    if (good) due("form " + packed + ": loss", x.loss(), over > 0 ? over * worth : 0);
                }
    }

    private static void bringAnswersByTheFirstThatApplies() {
        ImpreciseDesk x = new ImpreciseDesk();
        for (int j = 0; j < 6; j++) x.bring(0, 6, packed(1, 0, 1));
        due("BAD before FULL, window", x.bring(3, 3, packed(0, 0, 1)), -1);
        due("BAD before FULL, packed", x.bring(0, 24, 0), -1);
        due("FULL before REFUSED", x.bring(0, 6, packed(1, 0, 1)), -2);
        x.take(5);
        due("BAD before REFUSED", x.bring(0, 6, packed(6, 7, 1)), -1);
        due("REFUSED", x.bring(0, 6, packed(2, 0, 1)), -3);
        due("not refused", x.bring(0, 6, packed(1, 0, 1)), 5);
    }

    private static void bringRefused() {
        ImpreciseDesk x = new ImpreciseDesk();
        due("must over the window", x.bring(4, 6, packed(3, 0, 9)), -3);
        due("must as the window", x.bring(4, 6, packed(2, 6, 9)), 0);
        due("nothing left of the window", x.bring(4, 6, packed(1, 0, 9)), -3);
        due("no must fits a full window", x.bring(4, 6, packed(0, 3, 9)), 1);
        due("the mays are lost", x.loss(), 6 * 9 + 3 * 9);
        due("room beside", x.bring(3, 6, packed(1, 0, 9)), 2);
        due("three tasks, each alone would fit", x.bring(3, 7, packed(2, 0, 1)), -3);
        due("refused: tasks", x.tasks(), 7);
        due("refused: loss", x.loss(), 81);
        duePlan("refused", x, "...200");
        x.take(0);
        due("a refused task leaves nothing", x.idle(), 21);
        due("its number is free", x.bring(0, 1, packed(0, 0, 1)), 0);
        due("and the next", x.bring(0, 1, packed(0, 0, 1)), 3);
    }

    private static void take() {
        ImpreciseDesk x = new ImpreciseDesk();
        x.bring(0, 4, packed(2, 2, 3));
        x.bring(0, 4, packed(2, 2, 5));
        due("take: loss before", x.loss(), 16);
        int[] wrong = {-1, 2, 5, 6, 31, 32, 33, -32, LEAST, GREATEST};
        for (int j : wrong) due("take " + j, x.take(j), false);
        due("take: loss still", x.loss(), 16);
        due("take: tasks still", x.tasks(), 3);
        due("take 0", x.take(0), true);
        due("take 0 again", x.take(0), false);
        due("take: tasks", x.tasks(), 2);
        due("take: loss", x.loss(), 0);
        due("take: kept 0", x.kept(0), -1);
        due("take: kept 1", x.kept(1), 2);
        duePlan("take", x, "1111");
        due("take 1", x.take(1), true);
        due("take: idle", x.idle(), 24);
    }

    private static void takeFreesTheNumber() {
        ImpreciseDesk x = new ImpreciseDesk();
        for (int j = 0; j < 6; j++) x.bring(j, j + 1, packed(1, 0, 1));
        x.take(4);
        x.take(1);
        due("least free number", x.bring(10, 12, packed(0, 2, 2)), 1);
        due("next free number", x.bring(12, 14, packed(1, 0, 2)), 4);
        due("full again", x.bring(12, 14, packed(0, 0, 2)), -2);
        duePlan("numbers again", x, "0.23.5....114");
    }

    private static void block() {
        ImpreciseDesk x = new ImpreciseDesk();
        int[] wrong = {-1, 24, 25, 31, 32, -32, LEAST, GREATEST};
        for (int t : wrong) {
            due("block " + t, x.block(t, true), -1);
            due("unblock " + t, x.block(t, false), -1);
        }
        due("wrong blocks", x.blocked(), 0);
        for (int t = 0; t < 24; t++) due("block " + t, x.block(t, true), t);
        due("all blocked", x.blocked(), (1 << 24) - 1);
        due("all blocked: idle", x.idle(), 0);
        due("block again", x.block(7, true), 7);
        due("unblock", x.block(7, false), 7);
        due("unblock again", x.block(7, false), 7);
        due("one unblocked", x.blocked(), (1 << 24) - 1 - (1 << 7));
        due("only a must of one fits", x.bring(0, 24, packed(2, 0, 1)), -3);
        due("a must of one", x.bring(0, 24, packed(1, 0, 1)), 0);
        due("block its unit", x.block(7, true), -3);
    }

    private static void blockRefused() {
        ImpreciseDesk x = new ImpreciseDesk();
        x.bring(0, 3, packed(2, 1, 4));
        due("first block", x.block(1, true), 1);
        due("second block", x.block(0, true), -3);
        due("second block is not kept", x.blocked(), 2);
        due("block again what is blocked", x.block(1, true), 1);
        duePlan("after a refused block", x, "0.0");
        due("loss after a refused block", x.loss(), 4);
        due("unblock when tight", x.block(1, false), 1);
        due("unblock what is not blocked", x.block(0, false), 0);
        due("nothing blocked", x.blocked(), 0);
        due("loss without blocks", x.loss(), 0);
    }

    private static void change() {
        ImpreciseDesk x = new ImpreciseDesk();
        x.bring(0, 6, packed(2, 2, 3));
        x.bring(0, 6, packed(2, 2, 3));
        due("change: kept 0 before", x.kept(0), 2);
        due("change worth", x.change(1, packed(2, 2, 4)), 1);
        due("change: kept 0", x.kept(0), 0);
        due("change: kept 1", x.kept(1), 2);
        due("change: loss", x.loss(), 6);
        due("change must and may", x.change(0, packed(0, 6, 9)), 0);
        due("change: kept 0 again", x.kept(0), 4);
        due("change: loss again", x.loss(), 2 * 9 + 2 * 4);
        due("change keeps the window", x.change(0, packed(4, 0, 1)), 0);
        duePlan("change", x, "000011");
        int[] wrong = {-1, 2, 5, 6, 32, 33, -32, LEAST, GREATEST};
        for (int j : wrong) due("change " + j, x.change(j, packed(0, 0, 1)), -1);
        due("change: tasks", x.tasks(), 3);
    }

    private static void changeRefused() {
        ImpreciseDesk x = new ImpreciseDesk();
        x.bring(0, 4, packed(2, 1, 3));
        x.bring(2, 6, packed(2, 1, 2));
        due("change too much", x.change(0, packed(5, 0, 9)), -3);
        due("as before: loss", x.loss(), 0);
        due("change as much as fits", x.change(0, packed(4, 3, 9)), 0);
        due("loss", x.loss(), 27 + 2);
        due("change the other too much", x.change(1, packed(3, 6, 9)), -3);
        due("loss as before", x.loss(), 29);
        due("BAD before REFUSED", x.change(1, packed(3, 7, 9)), -1);
        duePlan("change refused", x, "000011");
    }

    private static void tasksAndBlocked() {
        ImpreciseDesk x = new ImpreciseDesk();
        x.bring(0, 24, packed(1, 0, 1));
        x.bring(0, 24, packed(1, 0, 1));
        x.bring(0, 24, packed(1, 0, 1));
        x.take(1);
        due("tasks 0 and 2", x.tasks(), 5);
        x.block(0, true);
        x.block(23, true);
        due("blocked 0 and 23", x.blocked(), 1 | 1 << 23);
        x.block(0, false);
        due("blocked 23", x.blocked(), 1 << 23);
        due("tasks still", x.tasks(), 5);
    }

    private static void loss() {
        ImpreciseDesk x = new ImpreciseDesk();
        x.bring(0, 3, packed(1, 6, 9));
        due("loss of one", x.loss(), 4 * 9);
        x.bring(0, 3, packed(2, 0, 1));
        due("a must of little worth goes before a may", x.loss(), 6 * 9);
        x.bring(2, 5, packed(0, 3, 7));
        due("loss of the third", x.loss(), 54 + 7);
        x.block(3, true);
        due("loss with a blocked unit", x.loss(), 54 + 14);
        x.take(1);
        // unit 2 goes to task 0
        due("loss after take", x.loss(), 4 * 9 + 2 * 7);
    }

    private static void keptPrefersWorthThenNumber() {
        ImpreciseDesk x = new ImpreciseDesk();
        x.bring(0, 5, packed(0, 4, 5));
        x.bring(0, 5, packed(0, 4, 5));
        x.bring(0, 5, packed(0, 4, 6));
        due("the greatest worth", x.kept(2), 4);
        due("equal worth, the least number", x.kept(0), 1);
        due("equal worth, the next number", x.kept(1), 0);
        due("loss", x.loss(), 3 * 5 + 4 * 5);
        duePlan("kept", x, "02222");
        x.take(0);
        due("kept 1 after take", x.kept(1), 1);
        x.bring(0, 5, packed(0, 2, 5));
        due("the new 0 goes before 1", x.kept(0), 1);
        due("and 1 after it", x.kept(1), 0);
        int[] wrong = {-1, 3, 6, 32, -32, LEAST, GREATEST};
        for (int j : wrong) due("kept " + j, x.kept(j), -1);
    }

    private static void keptIsNotTradedForManySmallOnes() {
        ImpreciseDesk x = new ImpreciseDesk();
        x.bring(0, 4, packed(0, 4, 5));
        x.bring(2, 6, packed(0, 4, 5));
        x.bring(4, 6, packed(0, 2, 5));
        due("kept 0", x.kept(0), 4);
        due("kept 1", x.kept(1), 2);
        due("kept 2", x.kept(2), 0);
        due("loss", x.loss(), 4 * 5);
        x.change(2, packed(0, 2, 6));
        due("kept 0 then", x.kept(0), 4);
        due("kept 1 then", x.kept(1), 0);
        due("kept 2 then", x.kept(2), 2);
        due("idle", x.idle(), 18);
    }

    private static void atTakesTheLeastNumbersFirst() {
        ImpreciseDesk x = new ImpreciseDesk();
        x.bring(0, 10, packed(2, 1, 1));
        x.bring(0, 3, packed(1, 0, 1));
        x.bring(1, 4, packed(1, 1, 1));
        // 0 0 would leave units 2 and 3 for three units of tasks 1 and 2
        duePlan("all kept", x, "012200");
        x.change(2, packed(1, 0, 1));
        duePlan("least numbers first", x, "00120");
        int[] wrong = {-1, 24, 25, 32, -32, LEAST, GREATEST};
        for (int t : wrong) due("at " + t, x.at(t), -1);
    }

    private static void atSkipsBlockedUnits() {
        ImpreciseDesk x = new ImpreciseDesk();
        x.bring(1, 24, packed(3, 0, 1));
        x.bring(22, 24, packed(1, 0, 1));
        x.block(1, true);
        x.block(3, true);
        x.block(23, true);
        duePlan("blocked units", x, "..0.00" + "................" + "1");
        x.block(3, false);
        duePlan("unblocked unit", x, "..000." + "................" + "1");
    }

    private static void atDoesNotCountOnBlockedUnits() {
        ImpreciseDesk x = new ImpreciseDesk();
        x.bring(0, 10, packed(1, 0, 1));
        x.bring(0, 2, packed(1, 0, 1));
        duePlan("task 1 can wait for unit 1", x, "01");
        x.block(1, true);
        duePlan("task 1 can't wait for a blocked unit", x, "1.0");
    }

    private static void atGoesByNumberNotByWorth() {
        ImpreciseDesk x = new ImpreciseDesk();
        x.bring(0, 6, packed(1, 2, 1));
        x.bring(0, 6, packed(1, 3, 9));
        due("kept 0", x.kept(0), 1);
        due("kept 1", x.kept(1), 3);
        duePlan("by number", x, "001111");
        x.bring(0, 1, packed(1, 0, 1));
        duePlan("a must at the start", x, "201111");
    }

    private static void greatestMust() {
        ImpreciseDesk x = new ImpreciseDesk();
        x.bring(0, 24, packed(0, 0, 1));
        due("never over six", x.greatestMust(0), 6);
        x.bring(3, 6, packed(1, 0, 1));
        due("the window", x.greatestMust(1), 3);
        x.bring(9, 10, packed(0, 6, 1));
        due("a window of one", x.greatestMust(2), 1);
        x.block(9, true);
        due("none in a blocked window", x.greatestMust(2), 0);
        due("nothing changed", x.change(1, packed(3, 0, 1)), 1);
        due("as it is", x.greatestMust(1), 3);
        int[] wrong = {-1, 3, 6, 32, -32, LEAST, GREATEST};
        for (int j : wrong) due("greatestMust " + j, x.greatestMust(j), -1);
    }

    private static void greatestMustBesideOthers() {
        ImpreciseDesk x = new ImpreciseDesk();
        x.bring(0, 8, packed(3, 6, 9));
        x.bring(2, 6, packed(2, 6, 9));
        // the mays of others give way, their musts don't
        due("beside the other", x.greatestMust(0), 6);
        due("inside the other", x.greatestMust(1), 4);
        x.change(0, packed(5, 0, 1));
        due("the other's must stays", x.greatestMust(1), 3);
        due("answers change nothing", x.kept(1), 1);
    }

    private static void lossWithout() {
        ImpreciseDesk x = new ImpreciseDesk();
        x.bring(0, 3, packed(1, 2, 4));
        x.bring(3, 4, packed(1, 0, 1));
        x.bring(10, 12, packed(0, 2, 9));
        due("a unit of a may", x.lossWithout(1), 4);
        due("a unit of another may", x.lossWithout(10), 9);
        due("a unit of a must alone", x.lossWithout(3), -1);
        due("a unit of nobody", x.lossWithout(20), 0);
        x.block(1, true);
        due("blocked already", x.lossWithout(1), 4);
        due("the second one", x.lossWithout(0), 8);
        x.block(2, true);
        due("the last one", x.lossWithout(0), -1);
        due("blocked already and tight", x.lossWithout(2), 8);
        int[] wrong = {-1, 24, 32, -32, LEAST, GREATEST};
        for (int t : wrong) due("lossWithout " + t, x.lossWithout(t), -1);
    }

    private static void lossWithoutChangesNothing() {
        ImpreciseDesk x = new ImpreciseDesk();
        x.bring(0, 4, packed(1, 3, 4));
        for (int t = 0; t < 24; t++) due("lossWithout " + t, x.lossWithout(t), t < 4 ? 4 : 0);
        due("blocked", x.blocked(), 0);
        due("loss", x.loss(), 0);
        duePlan("lossWithout", x, "0000");
    }

    private static void freeable() {
        ImpreciseDesk x = new ImpreciseDesk();
        x.bring(2, 6, packed(2, 2, 9));
        due("mays can be left out", x.freeable(2, 6), 2);
        due("half the window", x.freeable(2, 4), 2);
        due("the other half", x.freeable(4, 6), 2);
        due("all", x.freeable(0, 24), 22);
        due("one unit", x.freeable(0, 1), 1);
        due("the last unit", x.freeable(23, 24), 1);
        x.block(5, true);
        due("blocked ones not counted", x.freeable(4, 6), 1);
        due("three left for two", x.freeable(2, 5), 1);
        due("only a blocked one", x.freeable(5, 6), 0);
        int[] wrong = {-1, 3, 0, 25, 4, 4, 5, 4, 24, 24, 24, 25, 0, 0, LEAST, GREATEST, LEAST, 2, 2, GREATEST};
        for (int k = 0; k < wrong.length; k += 2)
            due("freeable " + wrong[k] + ", " + wrong[k + 1], x.freeable(wrong[k], wrong[k + 1]), -1);
        due("freeable changes nothing", x.blocked(), 1 << 5);
        duePlan("freeable", x, "..000");
    }

    private static void freeableMovesTasksOut() {
        ImpreciseDesk x = new ImpreciseDesk();
        x.bring(0, 8, packed(4, 0, 1));
        x.bring(4, 12, packed(4, 0, 1));
        // task 0 to 0 .. 3, task 1 to 8 .. 11
        due("both out", x.freeable(4, 8), 4);
        due("one stays in", x.freeable(0, 4), 4);
        due("most of the first two thirds", x.freeable(0, 8), 4);
        due("in the middle", x.freeable(2, 10), 4);
        x.bring(0, 12, packed(3, 6, 9));
        due("eleven of twelve", x.freeable(0, 12), 1);
        due("any of them", x.freeable(6, 7), 1);
    }

    private static void idle() {
        ImpreciseDesk x = new ImpreciseDesk();
        x.bring(0, 6, packed(2, 2, 1));
        due("must and may", x.idle(), 20);
        x.block(23, true);
        due("blocked ones not counted", x.idle(), 19);
        x.block(0, true);
        x.block(1, true);
        due("still all kept", x.idle(), 17);
        x.block(2, true);
        due("one left out", x.idle(), 17);
        x.block(2, false);
        x.take(0);
        due("without tasks", x.idle(), 21);
    }

    private static void objectsAreApart() {
        ImpreciseDesk x = new ImpreciseDesk();
        ImpreciseDesk y = new ImpreciseDesk();
        x.bring(0, 4, packed(1, 1, 1));
        x.block(9, true);
        due("the other's tasks", y.tasks(), 0);
        due("the other's blocked", y.blocked(), 0);
        due("the other's number", y.bring(0, 4, packed(1, 1, 1)), 0);
        due("the other's idle", y.idle(), 22);
        due("its own idle", x.idle(), 21);
    }

    private static void wildArgumentsChangeNothing() {
        ImpreciseDesk x = new ImpreciseDesk();
        x.bring(1, 9, packed(2, 3, 4));
        x.bring(3, 7, packed(3, 3, 6));
        x.block(4, true);
        String before = Desks.plan(x) + x.loss() + x.tasks() + x.blocked();
        int[] wild = {LEAST, LEAST + 1, -65, -1, 64 * 64, 1 << 24, GREATEST - 1, GREATEST};
        for (int v : wild) {
            due("wild bring", x.bring(v, v, v), -1);
            due("wild take", x.take(v), false);
            due("wild block", x.block(v, true), -1);
            due("wild unblock", x.block(v, false), -1);
            due("wild change", x.change(v, v), -1);
            due("wild change of a task", x.change(0, v), -1);
            due("wild kept", x.kept(v), -1);
            due("wild at", x.at(v), -1);
            due("wild greatestMust", x.greatestMust(v), -1);
            due("wild lossWithout", x.lossWithout(v), -1);
            due("wild freeable", x.freeable(v, v), -1);
        }
        String after = Desks.plan(x) + x.loss() + x.tasks() + x.blocked();
        due("wild: " + before + " became " + after, before.equals(after), true);
    }
}
