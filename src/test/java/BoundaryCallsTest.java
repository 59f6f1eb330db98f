/** A test for each sentence of promises 1 to 5, the calls that change something. */
public final class BoundaryCallsTest {
    private static final Checks CHECKS = new Checks();

    public static void main(String[] args) {
        CHECKS.sentence("1: No tasks", BoundaryCallsTest::newHasNoTasks);
        CHECKS.sentence("1: nothing blocked", BoundaryCallsTest::newHasNothingBlocked);
        CHECKS.sentence("2: Brings a task with the window r, d and a packed number: must + 8 * may + 64 * worth.",
                BoundaryCallsTest::bringUnpacks);
        CHECKS.sentence("2: Answers, by the first that applies", BoundaryCallsTest::bringByTheFirst);
        CHECKS.sentence("2: BAD unless 0 <= r < d <= 24", BoundaryCallsTest::bringBadWindow);
        CHECKS.sentence("2: and packed is of this form with must and may 0 .. 6 and worth 1 .. 9",
                BoundaryCallsTest::bringBadPacked);
        CHECKS.sentence("2: FULL when six tasks are there", BoundaryCallsTest::bringFull);
        CHECKS.sentence("2: REFUSED when with it there would be no plan", BoundaryCallsTest::bringRefused);
        CHECKS.sentence("2: otherwise the least number that no task has, which it gets",
                BoundaryCallsTest::bringLeastNumber);
        CHECKS.sentence("3: Takes task j away and answers true", BoundaryCallsTest::takeTrue);
        CHECKS.sentence("3: false, changing nothing, when there is no task j", BoundaryCallsTest::takeFalse);
        CHECKS.sentence("4: Blocks unit t, or unblocks it.", BoundaryCallsTest::blockAndUnblock);
        CHECKS.sentence("4: Answers BAD when t is not 0 .. 23", BoundaryCallsTest::blockBad);
        CHECKS.sentence("4: REFUSED, changing nothing, when there would be no plan",
                BoundaryCallsTest::blockRefused);
        CHECKS.sentence("4: otherwise t", BoundaryCallsTest::blockOtherwise);
        CHECKS.sentence("5: Gives task j another packed number (as in bring).",
                BoundaryCallsTest::changeGives);
        CHECKS.sentence("5: Answers BAD when there is no task j", BoundaryCallsTest::changeNoTask);
        CHECKS.sentence("5: or the number is not of the form", BoundaryCallsTest::changeBadPacked);
        CHECKS.sentence("5: REFUSED, changing nothing, when there would be no plan",
                BoundaryCallsTest::changeRefused);
        CHECKS.sentence("5: otherwise j", BoundaryCallsTest::changeOtherwise);
        CHECKS.end();
    }

    private static void due(String call, long got, long want) {
        CHECKS.due(call, got, want);
    }

    private static void due(String call, boolean got, boolean want) {
        CHECKS.due(call, got, want);
    }

    /** Three tasks that leave something out, one number free between them, two blocked units. */
    private static ImpreciseDesk busy() {
        ImpreciseDesk x = Desks.desk(Desks.task(0, 8, 2, 4, 3), Desks.task(0, 1, 0, 0, 1),
                Desks.task(2, 6, 2, 2, 5), Desks.task(4, 12, 3, 6, 2));
        x.take(1);
        x.block(5, true);
        x.block(23, true);
        return x;
    }

    private static void newHasNoTasks() {
        ImpreciseDesk x = new ImpreciseDesk();
        due("tasks", x.tasks(), 0);
        for (int j = 0; j < 6; j++) {
            due("kept " + j, x.kept(j), -1);
            due("greatestMust " + j, x.greatestMust(j), -1);
            due("change " + j, x.change(j, Desks.packed(0, 0, 1)), -1);
            due("take " + j, x.take(j), false);
        }
        CHECKS.duePlan("a new object", x, "");
        due("loss", x.loss(), 0);
        due("the first number", x.bring(0, 24, Desks.packed(6, 6, 9)), 0);
        ImpreciseDesk y = new ImpreciseDesk();
        due("a new object beside a used one", y.tasks(), 0);
        due("its first number", y.bring(0, 24, Desks.packed(6, 6, 9)), 0);
        due("the used one still", x.tasks(), 1);
    }

    private static void newHasNothingBlocked() {
        ImpreciseDesk x = new ImpreciseDesk();
        due("blocked", x.blocked(), 0);
        due("idle", x.idle(), 24);
        due("freeable", x.freeable(0, 24), 24);
        Desks.blockSpan(x, 0, 24);
        ImpreciseDesk y = new ImpreciseDesk();
        due("a new object beside a used one", y.blocked(), 0);
        for (int j = 0; j < 4; j++) due("all 24 units can be had", y.bring(0, 24, Desks.packed(6, 0, 1)), j);
    }

    private static void bringUnpacks() {
        for (int worth = 1; worth <= 9; worth++)
            for (int may = 0; may <= 6; may++)
                for (int must = 0; must <= 6; must++) {
                    String where = "must " + must + ", may " + may + ", worth " + worth;
                    ImpreciseDesk x = new ImpreciseDesk();
                    due(where, x.bring(5, 11, must + 8 * may + 64 * worth), 0);
                    int kept = may < 6 - must ? may : 6 - must;
                    due(where + ": kept", x.kept(0), kept);
                    due(where + ": loss", x.loss(), worth * (may - kept));
                    due(where + ": idle", x.idle(), 24 - must - kept);
                    due(where + ": freeable", x.freeable(0, 24), 24 - must);
                }
        ImpreciseDesk ends = Desks.desk(Desks.task(0, 1, 1, 0, 1), Desks.task(23, 24, 1, 0, 1));
        CHECKS.duePlan("windows at both ends", ends, "0" + ".".repeat(22) + "1");
    }

    private static void bringByTheFirst() {
        ImpreciseDesk full = new ImpreciseDesk();
        for (int j = 0; j < 6; j++) full.bring(0, 6, Desks.packed(1, 0, 1));
        due("BAD window, FULL", full.bring(6, 6, Desks.packed(0, 0, 1)), -1);
        due("BAD number, FULL", full.bring(0, 24, Desks.packed(0, 0, 10)), -1);
        due("BAD window, FULL, no plan", full.bring(-1, 6, Desks.packed(1, 0, 1)), -1);
        due("FULL, no plan", full.bring(0, 6, Desks.packed(1, 0, 1)), -2);
        due("FULL, a plan", full.bring(6, 24, Desks.packed(1, 0, 1)), -2);
        ImpreciseDesk tight = Desks.desk(Desks.task(0, 2, 2, 0, 1));
        due("BAD window, no plan", tight.bring(0, 25, Desks.packed(6, 0, 1)), -1);
        due("BAD number, no plan", tight.bring(0, 2, Desks.packed(1, 7, 1)), -1);
        due("no plan", tight.bring(0, 2, Desks.packed(1, 0, 1)), -3);
    }

    private static void bringBadWindow() {
        for (int r = -2; r <= 26; r++) {
            ImpreciseDesk x = new ImpreciseDesk();
            for (int d = -2; d <= 26; d++) {
                boolean good = 0 <= r && r < d && d <= 24;
                due("window " + r + ", " + d, x.bring(r, d, Desks.packed(0, 0, 1)), good ? 0 : -1);
                due("window " + r + ", " + d + ": a task", x.take(0), good);
            }
        }
        int[] far = {Desks.LEAST, Desks.LEAST + 5, -32, -27, 29, 32, 37, 56, Desks.GREATEST};
        ImpreciseDesk x = busy();
        for (int v : far) {
            for (int w : far) due("window " + v + ", " + w, x.bring(v, w, Desks.packed(0, 1, 1)), -1);
            due("window 3, " + v, x.bring(3, v, Desks.packed(0, 1, 1)), -1);
            due("window " + v + ", 9", x.bring(v, 9, Desks.packed(0, 1, 1)), -1);
        }
        CHECKS.dueSame("after bad windows", x, busy());
    }

    /** Numbers close to the form, and numbers that have a good one in their lower bits. */
    private static int[] numbersToTry() {
        int good = Desks.packed(2, 1, 3);
        int[] far = {Desks.LEAST, Desks.LEAST + good, Desks.GREATEST, Desks.GREATEST - 63, -good,
            (1 << 30) + good, (1 << 24) + good, (1 << 16) + good, (1 << 10) + good, ~good, -64, -640};
        int[] all = new int[far.length + 1200];
        System.arraycopy(far, 0, all, 0, far.length);
        for (int k = 0; k < 1200; k++) all[far.length + k] = k - 300;
        return all;
    }

    private static void bringBadPacked() {
        for (int packed : numbersToTry()) {
            ImpreciseDesk x = new ImpreciseDesk();
            boolean good = Desks.isOfForm(packed);
            due("packed " + packed, x.bring(0, 24, packed), good ? 0 : -1);
            due("packed " + packed + ": tasks", x.tasks(), good ? 1 : 0);
        }
        ImpreciseDesk x = busy();
        int[] near = {63, 640, Desks.packed(7, 0, 1), Desks.packed(0, 7, 1), Desks.packed(7, 7, 9), 0, -1};
        for (int packed : near) due("packed " + packed, x.bring(12, 20, packed), -1);
        CHECKS.dueSame("after bad numbers", x, busy());
    }

    private static void bringFull() {
        ImpreciseDesk x = new ImpreciseDesk();
        ImpreciseDesk twin = new ImpreciseDesk();
        for (int j = 0; j < 6; j++) {
            due("not full with " + j, x.bring(0, 24, Desks.packed(0, 1, 1 + j)), j);
            twin.bring(0, 24, Desks.packed(0, 1, 1 + j));
        }
        for (int k = 0; k < 3; k++) due("full", x.bring(0, 24, Desks.packed(0, 0, 1)), -2);
        due("full, whatever is brought", x.bring(3, 9, Desks.packed(6, 6, 9)), -2);
        for (int j = 0; j < 6; j++) {
            due("one goes", x.take(j), true);
            due("one comes", x.bring(0, 24, Desks.packed(0, 1, 1 + j)), j);
            due("full again", x.bring(0, 24, Desks.packed(0, 0, 1)), -2);
        }
        CHECKS.dueSame("after full ones", x, twin);
    }

    private static void bringRefused() {
        for (int length = 1; length <= 6; length++)
            for (int must = 0; must <= 6; must++) {
                int answer = new ImpreciseDesk().bring(9, 9 + length, Desks.packed(must, 6, 9));
                due("must " + must + " in " + length + " units", answer, must > length ? -3 : 0);
            }
        ImpreciseDesk x = busy();
        // task 2 needs two of the units 2, 3 and 4
        due("one more than fits", x.bring(2, 5, Desks.packed(2, 6, 9)), -3);
        due("one more than fits, elsewhere", x.bring(23, 24, Desks.packed(1, 6, 9)), -3);
        CHECKS.dueSame("after refused ones", x, busy());
        due("as much as fits", busy().bring(2, 5, Desks.packed(1, 6, 9)), 1);
        due("nothing fits where all is blocked", busy().bring(23, 24, Desks.packed(0, 6, 9)), 1);
        refusedByAGroup();
    }

    private static void refusedByAGroup() {
        ImpreciseDesk x = Desks.desk(Desks.task(0, 4, 2, 0, 1), Desks.task(2, 6, 2, 0, 1),
                Desks.task(4, 8, 2, 0, 1), Desks.task(0, 8, 1, 0, 1));
        due("nine units wanted of eight", x.bring(0, 8, Desks.packed(2, 0, 1)), -3);
        due("eight of eight", x.bring(0, 8, Desks.packed(1, 0, 1)), 4);
        due("a sixth, one of eight too many", x.bring(3, 5, Desks.packed(1, 0, 1)), -3);
        due("a sixth, nine of nine", x.bring(3, 9, Desks.packed(1, 0, 1)), 5);
        CHECKS.duePlan("nine of nine", x, "001122345");
    }

    private static void bringLeastNumber() {
        for (int gone = 0; gone < 64; gone++) {
            ImpreciseDesk x = new ImpreciseDesk();
            for (int j = 0; j < 6; j++) x.bring(j, j + 1, Desks.packed(1, 0, 1));
            for (int j = 0; j < 6; j++) if ((gone >> j & 1) != 0) x.take(j);
            for (int j = 0; j < 6; j++)
                if ((gone >> j & 1) != 0)
                    due("gone " + gone, x.bring(10 + j, 11 + j, Desks.packed(1, 0, 1)), j);
            due("gone " + gone + ": full then", x.bring(0, 24, Desks.packed(0, 0, 1)), -2);
            for (int j = 0; j < 6; j++)
                due("gone " + gone + ": task " + j, x.at((gone >> j & 1) != 0 ? 10 + j : j), j);
        }
        ImpreciseDesk x = Desks.desk(Desks.task(0, 1, 1, 0, 1));
        due("refused", x.bring(0, 1, Desks.packed(1, 0, 1)), -3);
        due("a refused one uses no number", x.bring(1, 2, Desks.packed(1, 0, 1)), 1);
        due("a bad one", x.bring(1, 1, Desks.packed(1, 0, 1)), -1);
        due("a bad one uses no number", x.bring(2, 3, Desks.packed(1, 0, 1)), 2);
    }

    private static void takeTrue() {
        for (int j = 0; j < 6; j++) {
            ImpreciseDesk x = new ImpreciseDesk();
            for (int k = 0; k < 6; k++) x.bring(0, 6, Desks.packed(1, 1, 9));
            due("take " + j, x.take(j), true);
            due("take " + j + ": tasks", x.tasks(), 63 - (1 << j));
            due("take " + j + ": kept", x.kept(j), -1);
            due("take " + j + ": loss", x.loss(), 36);
            due("take " + j + ": kept of the first", x.kept(j == 0 ? 1 : 0), 1);
            for (int t = 0; t < 6; t++) due("take " + j + ": at " + t + " not", x.at(t) == j, false);
            due("take " + j + ": greatestMust", x.greatestMust(j), -1);
            due("take " + j + ": change", x.change(j, Desks.packed(0, 0, 1)), -1);
        }
        ImpreciseDesk last = Desks.desk(Desks.task(3, 9, 6, 6, 9));
        due("block its unit before", last.block(5, true), -3);
        due("take the only one", last.take(0), true);
        CHECKS.dueSame("after the only one", last, new ImpreciseDesk());
        ImpreciseDesk blocks = Desks.desk(Desks.task(3, 9, 2, 6, 9));
        blocks.block(4, true);
        blocks.take(0);
        due("blocked units stay", blocks.blocked(), 16);
    }

    private static void takeFalse() {
        ImpreciseDesk x = busy();
        for (int j : Desks.NO_TASKS) due("take " + j, x.take(j), false);
        due("take the number that is free again", x.take(1), false);
        due("take a number that was never there", x.take(4), false);
        due("take the greatest number", x.take(5), false);
        CHECKS.dueSame("after takes of nothing", x, busy());
        ImpreciseDesk twice = busy();
        due("take", twice.take(2), true);
        due("take again", twice.take(2), false);
        due("the others are there", twice.tasks(), 9);
        for (int j = 0; j < 6; j++) due("take " + j + " of none", new ImpreciseDesk().take(j), false);
    }

    private static void blockAndUnblock() {
        for (int t = 0; t < 24; t++) {
            ImpreciseDesk x = Desks.desk(Desks.task(t, t + 1, 0, 1, 1));
            x.block(t, true);
            due("block " + t, x.blocked(), 1 << t);
            due("block " + t + ": at", x.at(t), -1);
            x.block(t, true);
            due("block " + t + " twice", x.blocked(), 1 << t);
            x.block(t, false);
            due("unblock " + t + " once", x.blocked(), 0);
            due("unblock " + t + ": at", x.at(t), 0);
            x.block(t, false);
            due("unblock " + t + " twice", x.blocked(), 0);
            x.block(t, true);
            due("block " + t + " again", x.blocked(), 1 << t);
        }
    }

    private static void blockBad() {
        ImpreciseDesk x = busy();
        for (int t : Desks.NO_UNITS) {
            due("block " + t, x.block(t, true), -1);
            due("unblock " + t, x.block(t, false), -1);
        }
        CHECKS.dueSame("after bad blocks", x, busy());
        ImpreciseDesk all = new ImpreciseDesk();
        Desks.blockSpan(all, 0, 24);
        for (int t : Desks.NO_UNITS) due("unblock " + t, all.block(t, false), -1);
        due("all are still blocked", all.blocked(), (1 << 24) - 1);
    }

    private static void blockRefused() {
        for (int must = 1; must <= 6; must++) {
            ImpreciseDesk x = Desks.desk(Desks.task(9, 16, must, 6, 2));
            ImpreciseDesk twin = Desks.desk(Desks.task(9, 16, must, 6, 2));
            for (int t = 9; t < 16 - must; t++) {
                due("must " + must + ", block " + t, x.block(t, true), t);
                twin.block(t, true);
            }
            for (int t = 16 - must; t < 16; t++) due("must " + must + ", block " + t, x.block(t, true), -3);
            due("must " + must + ": blocked", x.blocked(), (1 << 16 - must) - (1 << 9));
            CHECKS.dueSame("must " + must + ", after refused blocks", x, twin);
        }
        ImpreciseDesk group = Desks.desk(Desks.task(0, 3, 2, 0, 1), Desks.task(1, 4, 2, 0, 1));
        for (int t = 0; t < 4; t++) due("a group needs unit " + t, group.block(t, true), -3);
        due("nobody needs unit 4", group.block(4, true), 4);
        ImpreciseDesk mays = Desks.desk(Desks.task(0, 1, 0, 6, 9));
        due("a may needs no unit", mays.block(0, true), 0);
    }

    private static void blockOtherwise() {
        ImpreciseDesk x = new ImpreciseDesk();
        for (int t = 0; t < 24; t++) {
            due("unblock the unblocked " + t, x.block(t, false), t);
            due("block " + t, x.block(t, true), t);
            due("block the blocked " + t, x.block(t, true), t);
        }
        for (int t = 23; t >= 0; t--) due("unblock " + t, x.block(t, false), t);
        ImpreciseDesk tight = Desks.desk(Desks.task(0, 24, 6, 0, 1));
        Desks.blockSpan(tight, 6, 24);
        for (int t = 6; t < 24; t++) due("block the blocked " + t + ", no unit to spare", tight.block(t, true), t);
        for (int t = 0; t < 6; t++) due("unblock the unblocked " + t + ", no unit to spare", tight.block(t, false), t);
        due("no other unit", tight.block(0, true), -3);
    }

    private static void changeGives() {
        for (int worth = 1; worth <= 9; worth++)
            for (int may = 0; may <= 6; may++)
                for (int must = 0; must <= 6; must++) {
                    String where = "must " + must + ", may " + may + ", worth " + worth;
                    ImpreciseDesk x = Desks.desk(Desks.task(5, 11, 3, 2, 4));
                    due(where, x.change(0, must + 8 * may + 64 * worth), 0);
                    CHECKS.due(where, Desks.look(x), Desks.look(Desks.desk(Desks.task(5, 11, must, may, worth))));
                }
        ImpreciseDesk six = new ImpreciseDesk();
        for (int j = 0; j < 6; j++) six.bring(4 * j, 4 * j + 4, Desks.packed(1, 0, 1));
        for (int j = 0; j < 6; j++) six.change(j, Desks.packed(2, j, 1));
        CHECKS.duePlan("each of six, in its old window", six, "00..111.2222333344445555");
        due("each of six: loss", six.loss(), 6);
    }

    private static void changeNoTask() {
        ImpreciseDesk x = busy();
        for (int j : Desks.NO_TASKS) due("change " + j, x.change(j, Desks.packed(0, 0, 1)), -1);
        due("change the number that is free again", x.change(1, Desks.packed(0, 0, 1)), -1);
        due("change a number that was never there", x.change(5, Desks.packed(0, 0, 1)), -1);
        due("no task and no room", x.change(1, Desks.packed(6, 0, 1)), -1);
        due("no task and no form", x.change(1, 0), -1);
        CHECKS.dueSame("after changes of nothing", x, busy());
        for (int j = 0; j < 6; j++)
            due("change " + j + " of none", new ImpreciseDesk().change(j, Desks.packed(0, 0, 1)), -1);
    }

    private static void changeBadPacked() {
        for (int packed : numbersToTry()) {
            ImpreciseDesk x = Desks.desk(Desks.task(0, 24, 1, 1, 1));
            boolean good = Desks.isOfForm(packed);
            due("packed " + packed, x.change(0, packed), good ? 0 : -1);
            due("packed " + packed + ": idle", x.idle(), good ? 24 - packed % 8 - packed / 8 % 8 : 22);
        }
        ImpreciseDesk x = busy();
        int[] near = {63, 640, Desks.packed(7, 0, 1), Desks.packed(0, 7, 1), Desks.packed(7, 7, 9), 0, -1};
        for (int packed : near) due("packed " + packed, x.change(2, packed), -1);
        due("no form and no room", x.change(2, Desks.packed(6, 7, 1)), -1);
        CHECKS.dueSame("after bad numbers", x, busy());
    }

    private static void changeRefused() {
        for (int length = 1; length <= 6; length++)
            for (int must = 0; must <= 6; must++) {
                ImpreciseDesk x = Desks.desk(Desks.task(9, 9 + length, 1, 2, 3));
                boolean fits = must <= length;
                due("must " + must + " in " + length, x.change(0, Desks.packed(must, 6, 9)), fits ? 0 : -3);
                if (!fits)
                    CHECKS.dueSame("must " + must + " in " + length, x, Desks.desk(Desks.task(9, 9 + length, 1, 2, 3)));
            }
        ImpreciseDesk x = busy();
        // together they reach the seven units 0 .. 4, 6 and 7, task 2 alone the three 2, 3 and 4
        due("task 0, one more than fits", x.change(0, Desks.packed(6, 0, 1)), -3);
        due("task 2, one more than fits", x.change(2, Desks.packed(4, 6, 9)), -3);
        CHECKS.dueSame("after refused changes", x, busy());
        due("task 0, as much as fits", busy().change(0, Desks.packed(5, 0, 1)), 0);
        due("task 2, as much as fits", busy().change(2, Desks.packed(3, 6, 9)), 2);
    }

    private static void changeOtherwise() {
        for (int j = 0; j < 6; j++) {
            ImpreciseDesk x = new ImpreciseDesk();
            for (int k = 0; k < 6; k++) x.bring(4 * k, 4 * k + 4, Desks.packed(3, 0, 1));
            due("to the same number", x.change(j, Desks.packed(3, 0, 1)), j);
            due("the old must is not counted beside the new one", x.change(j, Desks.packed(4, 0, 1)), j);
            due("where all is given", x.change(j, Desks.packed(4, 6, 9)), j);
            due("to nothing", x.change(j, Desks.packed(0, 0, 1)), j);
            due("and back", x.change(j, Desks.packed(4, 0, 1)), j);
            due("the tasks are the same", x.tasks(), 63);
        }
    }
}
