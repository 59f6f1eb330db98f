/** A test for each sentence of "What it is" and "Terms" that names a boundary. */
public final class BoundaryTermsTest {
    private static final Checks CHECKS = new Checks();

    public static void main(String[] args) {
        CHECKS.sentence("An object is used for at most 512 calls after it has been made",
                BoundaryTermsTest::fiveHundredAndTwelveCalls);
        CHECKS.sentence("Time has the units 0 .. 23, each of which can be given to one task or left.",
                BoundaryTermsTest::unitsZeroToTwentyThree);
        CHECKS.sentence("There are tasks with numbers 0 .. 5",
                BoundaryTermsTest::numbersZeroToFive);
        CHECKS.sentence("each with a window from r up to d (0 <= r < d <= 24; the units r .. d - 1)",
                BoundaryTermsTest::windows);
        CHECKS.sentence("a MUST of 0 to 6 units", BoundaryTermsTest::mustZeroToSix);
        CHECKS.sentence("a MAY of 0 to 6 units", BoundaryTermsTest::mayZeroToSix);
        CHECKS.sentence("and a worth of 1 to 9 for each unit of its may",
                BoundaryTermsTest::worthOneToNine);
        CHECKS.sentence("at least its must and at most its must and may together",
                BoundaryTermsTest::atLeastAndAtMost);
        CHECKS.sentence("no unit is given to two tasks", BoundaryTermsTest::noUnitToTwoTasks);
        CHECKS.sentence("Units can be BLOCKED: plans don't give them to any task.",
                BoundaryTermsTest::blockedUnits);
        CHECKS.sentence("There is always a plan for the present tasks and blocked units: every call that "
                + "would leave none is refused.", BoundaryTermsTest::alwaysAPlan);
        CHECKS.sentence("A plan KEEPS, of a task, as many units of its may as it gives the task more than "
                + "its must; what it does not keep is left out.", BoundaryTermsTest::keeps);
        CHECKS.sentence("The LOSS of a plan is the sum, over the tasks, of the worth times the number of "
                + "units left out.", BoundaryTermsTest::lossOfAPlan);
        CHECKS.sentence("THE ORDER OF TASKS is by worth, the greatest first",
                BoundaryTermsTest::orderByWorth);
        CHECKS.sentence("equal ones by their numbers", BoundaryTermsTest::orderByNumber);
        CHECKS.sentence("THE BEST PLANS are those with the least loss",
                BoundaryTermsTest::bestPlansHaveTheLeastLoss);
        CHECKS.sentence("of all those, the numbers kept, read in the order of tasks, are greatest in the "
                + "dictionary order", BoundaryTermsTest::bestPlansAreGreatestInOrder);
        CHECKS.sentence("THE FIRST PLAN is the best plan", BoundaryTermsTest::firstPlanIsABestPlan);
        CHECKS.sentence("whose units, from 0 to 23, read as the number of the task that has the unit .. are "
                + "least in the dictionary order", BoundaryTermsTest::firstPlanIsLeast);
        CHECKS.sentence("and 9 for a unit that none has", BoundaryTermsTest::aLeftUnitReadsAsNine);
        CHECKS.end();
    }

    private static void due(String call, long got, long want) {
        CHECKS.due(call, got, want);
    }

    private static void due(String call, boolean got, boolean want) {
        CHECKS.due(call, got, want);
    }

    private static void fiveHundredAndTwelveCalls() {
        ImpreciseDesk x = new ImpreciseDesk();
        int calls = 0;
        for (int round = 0; round < 63; round++) {
            int t = round % 24;
            due("round " + round + ": bring", x.bring(0, 24, Desks.packed(6, 6, 9)), 0);
            due("round " + round + ": bring another", x.bring(0, 24, Desks.packed(6, 6, 8)), 1);
            due("round " + round + ": block", x.block(t, true), t);
            due("round " + round + ": loss", x.loss(), 8);
            due("round " + round + ": at", x.at(23), t == 23 ? -1 : 1);
            due("round " + round + ": unblock", x.block(t, false), t);
            due("round " + round + ": take", x.take(0), true);
            due("round " + round + ": take the other", x.take(1), true);
            calls += 8;
        }
        due("call 505, bring", x.bring(0, 3, Desks.packed(2, 1, 4)), 0);
        due("call 506, block", x.block(1, true), 1);
        due("call 507, a refused block", x.block(2, true), -3);
        due("call 508, blocked", x.blocked(), 2);
        due("call 509, loss", x.loss(), 4);
        due("call 510, idle", x.idle(), 21);
        due("call 511, at", x.at(2), 0);
        due("call 512, tasks", x.tasks(), 1);
        due("the calls counted", calls + 8, 512);
        // later answers are free, but LANGUAGE.md lets no call throw in any state
        for (int k = 0; k < 600; k++) {
            x.bring(k % 24, 24, Desks.packed(1, 1, 1));
            x.block(k % 25, k % 3 == 0);
            x.at(k % 25);
            x.take(k % 7);
        }
    }

    private static void unitsZeroToTwentyThree() {
        for (int t = 0; t < 24; t++) {
            ImpreciseDesk x = Desks.desk(Desks.task(t, t + 1, 1, 0, 1));
            CHECKS.duePlan("unit " + t + " alone", x, ".".repeat(t) + "0");
        }
        ImpreciseDesk all = new ImpreciseDesk();
        for (int j = 0; j < 4; j++) due("six units more", all.bring(0, 24, Desks.packed(6, 0, 1)), j);
        due("a 25th unit", all.bring(0, 24, Desks.packed(1, 0, 1)), -3);
        due("all units given", all.idle(), 0);
        CHECKS.duePlan("all units given", all, "000000111111222222333333");
        due("all units left", new ImpreciseDesk().idle(), 24);
    }

    private static void numbersZeroToFive() {
        ImpreciseDesk x = new ImpreciseDesk();
        for (int j = 0; j < 6; j++) due("task " + j, x.bring(4 * j, 4 * j + 4, Desks.packed(1, j, 1)), j);
        due("a seventh", x.bring(0, 24, Desks.packed(0, 0, 1)), -2);
        due("six tasks", x.tasks(), 63);
        for (int j = 0; j < 6; j++) due("kept " + j, x.kept(j), j < 3 ? j : 3);
        due("kept 6", x.kept(6), -1);
        due("kept -1", x.kept(-1), -1);
        CHECKS.duePlan("six tasks", x, "0...11..222.333344445555");
    }

    private static void windows() {
        for (int r = 0; r < 24; r++)
            for (int d = r + 1; d <= 24; d++) window(r, d);
    }

    private static void window(int r, int d) {
        String where = "window " + r + ", " + d;
        ImpreciseDesk x = new ImpreciseDesk();
        int length = d - r;
        if (length < 6) due(where + ", one too many", x.bring(r, d, Desks.packed(length + 1, 0, 1)), -3);
        due(where, x.bring(r, d, Desks.packed(0, 6, 1)), 0);
        int has = length < 6 ? length : 6;
        CHECKS.duePlan(where, x, ".".repeat(r) + "0".repeat(has));
        due(where + ", greatest must", x.greatestMust(0), has);
        for (int t = 0; t < r; t++) x.block(t, true);
        for (int t = d; t < 24; t++) x.block(t, true);
        due(where + ", all else blocked", x.kept(0), has);
        for (int t = r; t < d - 1; t++) x.block(t, true);
        CHECKS.duePlan(where + ", the last unit", x, ".".repeat(d - 1) + "0");
        x.block(r, false);
        if (length > 1) x.block(d - 1, true);
        CHECKS.duePlan(where + ", the first unit", x, ".".repeat(r) + "0");
    }

    private static void mustZeroToSix() {
        ImpreciseDesk none = Desks.desk(Desks.task(0, 24, 0, 0, 9));
        CHECKS.duePlan("a must of 0", none, "");
        due("a must of 0 leaves all", none.freeable(0, 24), 24);
        for (int t = 0; t < 24; t++) due("a must of 0 lets block", none.block(t, true), t);
        due("a must of 0 where all is blocked", none.bring(0, 1, Desks.packed(0, 6, 1)), 1);
        due("a must of 1 where all is blocked", none.bring(0, 24, Desks.packed(1, 0, 1)), -3);
        ImpreciseDesk six = Desks.desk(Desks.task(0, 24, 6, 0, 1));
        CHECKS.duePlan("a must of 6", six, "000000");
        due("a must of 6 leaves the rest", six.freeable(0, 24), 18);
        due("a must of 7", six.bring(0, 24, Desks.packed(7, 0, 1)), -1);
        due("a change to a must of 7", six.change(0, Desks.packed(7, 0, 1)), -1);
        ImpreciseDesk tight = Desks.desk(Desks.task(0, 6, 0, 6, 9), Desks.task(0, 6, 6, 0, 1));
        CHECKS.duePlan("a must goes before any may", tight, "111111");
    }

    private static void mayZeroToSix() {
        ImpreciseDesk x = Desks.desk(Desks.task(0, 12, 2, 0, 9), Desks.task(0, 12, 2, 6, 1));
        due("a may of 0", x.kept(0), 0);
        due("a may of 6", x.kept(1), 6);
        due("nothing left out", x.loss(), 0);
        CHECKS.duePlan("mays of 0 and 6", x, "0011111111");
        due("a may of 7", x.bring(0, 12, Desks.packed(0, 7, 1)), -1);
        due("a change to a may of 7", x.change(0, Desks.packed(0, 7, 1)), -1);
        due("a may of 0 where nothing is free", Desks.desk(Desks.task(3, 4, 1, 0, 9)).loss(), 0);
        due("a may of 6 where nothing is free", Desks.desk(Desks.task(3, 4, 1, 6, 9)).loss(), 54);
    }

    private static void worthOneToNine() {
        for (int worth = 1; worth <= 9; worth++) {
            ImpreciseDesk x = Desks.desk(Desks.task(5, 6, 1, 4, worth));
            due("four units of worth " + worth, x.loss(), 4 * worth);
        }
        ImpreciseDesk x = new ImpreciseDesk();
        due("a worth of 0", x.bring(5, 6, Desks.packed(1, 4, 0)), -1);
        due("a worth of 10", x.bring(5, 6, Desks.packed(1, 4, 10)), -1);
        due("no task of these", x.tasks(), 0);
        ImpreciseDesk units = Desks.desk(Desks.task(0, 4, 1, 4, 9));
        due("a worth for each unit left out, not for the kept ones", units.loss(), 9);
    }

    private static void atLeastAndAtMost() {
        for (int must = 0; must <= 6; must++)
            for (int may = 0; may <= 6; may++) {
                String where = "must " + must + ", may " + may;
                ImpreciseDesk wide = Desks.desk(Desks.task(0, 24, must, may, 1));
                CHECKS.duePlan(where + " in a wide window", wide, "0".repeat(must + may));
                if (must == 0) continue;
                ImpreciseDesk narrow = Desks.desk(Desks.task(0, must, must, may, 1));
                CHECKS.duePlan(where + " in a narrow window", narrow, "0".repeat(must));
                due(where + ": nothing kept", narrow.kept(0), 0);
                due(where + ": not less than the must", narrow.block(must - 1, true), -3);
            }
        ImpreciseDesk beside = Desks.desk(Desks.task(0, 8, 3, 3, 1), Desks.task(0, 8, 2, 6, 9));
        CHECKS.duePlan("a task of great worth leaves another its must", beside, "00011111");
    }

    private static void noUnitToTwoTasks() {
        ImpreciseDesk mays = Desks.desk(Desks.task(7, 8, 0, 1, 3), Desks.task(7, 8, 0, 1, 3));
        due("one of two mays is left out", mays.loss(), 3);
        due("kept 0 and 1", mays.kept(0) + 10 * mays.kept(1), 1);
        ImpreciseDesk musts = Desks.desk(Desks.task(7, 8, 1, 0, 3));
        due("a second must for one unit", musts.bring(7, 8, Desks.packed(1, 0, 3)), -3);
        due("a must one unit further", musts.bring(8, 9, Desks.packed(1, 0, 3)), 1);
        due("a must for both units", musts.bring(7, 9, Desks.packed(1, 0, 3)), -3);
        due("a must for three units", musts.bring(7, 10, Desks.packed(1, 0, 3)), 2);
        CHECKS.duePlan("three units for three", musts, ".......012");
    }

    private static void blockedUnits() {
        for (int t = 0; t < 24; t++) {
            ImpreciseDesk x = Desks.desk(Desks.task(0, 24, 0, 6, 2));
            for (int u = 0; u < 24; u++) if (u != t) x.block(u, true);
            CHECKS.duePlan("only unit " + t + " is not blocked", x, ".".repeat(t) + "0");
            due("only unit " + t + " is kept", x.kept(0), 1);
            x.block(t, true);
            CHECKS.duePlan("all are blocked", x, "");
            due("all are blocked", x.loss(), 12);
        }
    }

    private static void alwaysAPlan() {
        ImpreciseDesk x = new ImpreciseDesk();
        for (int j = 0; j < 4; j++) x.bring(0, 24, Desks.packed(6, 6, 9));
        due("a task without a must", x.bring(0, 24, Desks.packed(0, 6, 9)), 4);
        String before = Desks.look(x);
        due("bring one unit too many", x.bring(0, 24, Desks.packed(1, 0, 1)), -3);
        due("change to one unit too many", x.change(4, Desks.packed(1, 6, 9)), -3);
        for (int t = 0; t < 24; t++) due("block one unit too many", x.block(t, true), -3);
        CHECKS.due("after refused calls", Desks.look(x), before);
        due("a change that wants no more", x.change(0, Desks.packed(6, 0, 1)), 0);
        due("a change to less", x.change(0, Desks.packed(5, 0, 1)), 0);
        due("then the block", x.block(11, true), 11);
        due("and no further one", x.block(12, true), -3);
        due("nor the change back", x.change(0, Desks.packed(6, 0, 1)), -3);
        due("unblocking is never refused", x.block(11, false), 11);
        due("then the change back", x.change(0, Desks.packed(6, 0, 1)), 0);
        due("taking is never refused", x.take(3), true);
        due("then six units can be blocked", x.block(0, true), 0);
        due("and the musts still fit", x.greatestMust(4), 5);
    }

    private static void keeps() {
        for (int length = 3; length <= 24; length++) {
            ImpreciseDesk x = Desks.desk(Desks.task(0, length, 3, 4, 5));
            int kept = length < 7 ? length - 3 : 4;
            due("a window of " + length + ": kept", x.kept(0), kept);
            due("a window of " + length + ": left out", x.loss(), 5 * (4 - kept));
        }
        due("nothing to keep of a may of 0", Desks.desk(Desks.task(0, 9, 5, 0, 5)).kept(0), 0);
        due("the must is not kept", Desks.desk(Desks.task(0, 6, 6, 6, 5)).kept(0), 0);
    }

    private static void lossOfAPlan() {
        due("over no tasks", new ImpreciseDesk().loss(), 0);
        ImpreciseDesk x = new ImpreciseDesk();
        Desks.blockSpan(x, 0, 24);
        int sum = 0;
        for (int j = 0; j < 6; j++) {
            x.bring(0, 24, Desks.packed(0, j + 1, 9 - j));
            sum += (j + 1) * (9 - j);
            due("over " + (j + 1) + " tasks", x.loss(), sum);
        }
        for (int j = 0; j < 6; j++) x.change(j, Desks.packed(0, 6, 9));
        due("the greatest loss there is", x.loss(), 324);
        x.take(0);
        x.take(5);
        due("tasks taken away lose nothing", x.loss(), 216);
        for (int j = 1; j < 5; j++) x.change(j, Desks.packed(0, 0, 9));
        due("nothing to leave out", x.loss(), 0);
    }

    private static void orderByWorth() {
        for (int worth = 1; worth < 9; worth++) {
            ImpreciseDesk x = Desks.desk(Desks.task(0, 6, 0, 6, worth), Desks.task(0, 6, 0, 6, worth + 1));
            due("worth " + worth + " after " + (worth + 1) + ": kept 0", x.kept(0), 0);
            due("worth " + worth + " after " + (worth + 1) + ": kept 1", x.kept(1), 6);
        }
        ImpreciseDesk x = new ImpreciseDesk();
        for (int j = 0; j < 6; j++) x.bring(0, 15, Desks.packed(0, 5, 4 + j));
        for (int j = 0; j < 6; j++) due("six worths: kept " + j, x.kept(j), j < 3 ? 0 : 5);
        due("the worth decides, not the may", lessMayOfMoreWorth().kept(1), 1);
        due("and the greater may has the rest", lessMayOfMoreWorth().kept(0), 2);
    }

    private static ImpreciseDesk lessMayOfMoreWorth() {
        return Desks.desk(Desks.task(0, 3, 0, 6, 8), Desks.task(0, 3, 0, 1, 9));
    }

    private static void orderByNumber() {
        ImpreciseDesk x = new ImpreciseDesk();
        for (int j = 0; j < 6; j++) x.bring(0, 5, Desks.packed(0, 2, 7));
        int[] kept = {2, 2, 1, 0, 0, 0};
        for (int j = 0; j < 6; j++) due("six equal ones: kept " + j, x.kept(j), kept[j]);
        x.take(0);
        x.bring(0, 5, Desks.packed(0, 2, 7));
        for (int j = 0; j < 6; j++) due("0 brought last: kept " + j, x.kept(j), kept[j]);
        x.change(5, Desks.packed(0, 2, 8));
        int[] then = {2, 1, 0, 0, 0, 2};
        for (int j = 0; j < 6; j++) due("5 of more worth: kept " + j, x.kept(j), then[j]);
        x.change(5, Desks.packed(0, 6, 7));
        for (int j = 0; j < 6; j++) due("5 with the greatest may: kept " + j, x.kept(j), kept[j]);
    }

    private static void bestPlansHaveTheLeastLoss() {
        // task 0 in unit 0 would leave out the one unit that task 1 can have
        ImpreciseDesk equal = Desks.desk(Desks.task(0, 2, 0, 1, 9), Desks.task(0, 1, 0, 1, 9));
        due("equal ones: loss", equal.loss(), 0);
        due("equal ones: kept", equal.kept(0) + 10 * equal.kept(1), 11);
        CHECKS.duePlan("equal ones", equal, "10");
        ImpreciseDesk chain = Desks.desk(Desks.task(0, 6, 0, 1, 9), Desks.task(0, 5, 0, 1, 8),
                Desks.task(0, 4, 0, 1, 7), Desks.task(0, 3, 0, 1, 6), Desks.task(0, 2, 0, 1, 5),
                Desks.task(0, 1, 0, 1, 4));
        due("a chain of six: loss", chain.loss(), 0);
        CHECKS.duePlan("a chain of six", chain, "543210");
        ImpreciseDesk few = Desks.desk(Desks.task(0, 6, 0, 6, 1), Desks.task(5, 6, 0, 1, 2));
        due("least loss, not most of the first number", few.loss(), 1);
        due("least loss: kept 0", few.kept(0), 5);
    }

    private static void bestPlansAreGreatestInOrder() {
        ImpreciseDesk one = Desks.desk(Desks.task(3, 4, 0, 6, 5), Desks.task(3, 4, 0, 6, 5));
        due("one unit: kept 0", one.kept(0), 1);
        due("one unit: kept 1", one.kept(1), 0);
        // each way to share the four units has the same loss
        ImpreciseDesk four = Desks.desk(Desks.task(0, 4, 0, 3, 5), Desks.task(0, 4, 0, 3, 5),
                Desks.task(0, 4, 0, 3, 5));
        due("four units: kept 0", four.kept(0), 3);
        due("four units: kept 1", four.kept(1), 1);
        due("four units: kept 2", four.kept(2), 0);
        // the equal ones 1 and 2 are read after task 3 and before task 0
        ImpreciseDesk mixed = Desks.desk(Desks.task(0, 5, 0, 6, 1), Desks.task(0, 5, 0, 2, 5),
                Desks.task(0, 5, 0, 6, 5), Desks.task(0, 5, 0, 1, 9));
        due("mixed: kept", mixed.kept(0) + 10 * mixed.kept(1) + 100 * mixed.kept(2)
                + 1000 * mixed.kept(3), 1220);
        // task 0 first has all it can have, though task 1 then has none
        ImpreciseDesk apart = Desks.desk(Desks.task(2, 6, 0, 4, 5), Desks.task(2, 4, 0, 2, 5),
                Desks.task(4, 6, 0, 2, 5));
        due("apart: kept", apart.kept(0) + 10 * apart.kept(1) + 100 * apart.kept(2), 4);
    }

    private static void firstPlanIsABestPlan() {
        // 0 in unit 0 reads least, but leaves out what is worth more
        ImpreciseDesk one = Desks.desk(Desks.task(0, 1, 0, 1, 1), Desks.task(0, 1, 0, 1, 2));
        CHECKS.duePlan("one unit", one, "1");
        ImpreciseDesk last = Desks.desk(Desks.task(0, 24, 6, 6, 1), Desks.task(0, 24, 6, 6, 2),
                Desks.task(0, 24, 6, 6, 3));
        CHECKS.duePlan("24 units for 36", last, "000000111111222222222222");
        ImpreciseDesk equal = Desks.desk(Desks.task(0, 2, 0, 2, 4), Desks.task(0, 2, 0, 2, 4));
        CHECKS.duePlan("equal ones", equal, "00");
    }

    private static void firstPlanIsLeast() {
        ImpreciseDesk six = new ImpreciseDesk();
        for (int j = 0; j < 6; j++) six.bring(0, 24, Desks.packed(2, 2, 9 - j));
        CHECKS.duePlan("six tasks of four units", six, "000011112222333344445555");
        // task 0 reads least at the start, and then as early as task 1 lets it
        ImpreciseDesk early = Desks.desk(Desks.task(0, 24, 3, 0, 1), Desks.task(0, 3, 2, 0, 1));
        CHECKS.duePlan("task 1 ends early", early, "01100");
        ImpreciseDesk late = Desks.desk(Desks.task(21, 24, 1, 0, 1), Desks.task(0, 24, 1, 1, 1));
        CHECKS.duePlan("task 0 starts late", late, "11" + ".".repeat(19) + "0");
        ImpreciseDesk ends = Desks.desk(Desks.task(20, 24, 2, 0, 1), Desks.task(20, 23, 2, 0, 1));
        CHECKS.duePlan("the last unit helps the first ones", ends, ".".repeat(20) + "0110");
        ends.block(23, true);
        due("and without it there is no plan", ends.blocked(), 0);
    }

    private static void aLeftUnitReadsAsNine() {
        ImpreciseDesk x = Desks.desk(Desks.task(1, 2, 1, 0, 1), Desks.task(2, 3, 1, 0, 1),
                Desks.task(3, 4, 1, 0, 1), Desks.task(4, 5, 1, 0, 1), Desks.task(5, 6, 1, 0, 1),
                Desks.task(0, 24, 2, 0, 1));
        CHECKS.duePlan("5 reads less than a left unit", x, "5012345");
        x.block(0, true);
        CHECKS.duePlan("5 as early as it can be", x, ".0123455");
        x.take(0);
        CHECKS.duePlan("5 in the unit that 0 had", x, ".512345");
        ImpreciseDesk left = Desks.desk(Desks.task(0, 24, 1, 1, 1));
        CHECKS.duePlan("the units left come last", left, "00");
        CHECKS.duePlan("all units left", new ImpreciseDesk(), "");
    }
}
