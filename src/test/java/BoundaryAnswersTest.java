/** A test for each sentence of promises 6 to 14, the calls that only answer. */
public final class BoundaryAnswersTest {
    private static final Checks CHECKS = new Checks();

    public static void main(String[] args) {
        CHECKS.sentence("6: The tasks: bit j for task j.", BoundaryAnswersTest::tasks);
        CHECKS.sentence("7: The blocked units: bit t for unit t.", BoundaryAnswersTest::blocked);
        CHECKS.sentence("8: The least loss of a plan.", BoundaryAnswersTest::loss);
        CHECKS.sentence("9: How many units of its may the best plans keep of task j",
                BoundaryAnswersTest::kept);
        CHECKS.sentence("9: NONE when there is no task j", BoundaryAnswersTest::keptNone);
        CHECKS.sentence("10: The task that has unit t in the first plan", BoundaryAnswersTest::at);
        CHECKS.sentence("10: NONE when none has it", BoundaryAnswersTest::atLeft);
        CHECKS.sentence("10: or t is not 0 .. 23", BoundaryAnswersTest::atNoUnit);
        CHECKS.sentence("11: The greatest must that task j could have, from 0 to 6",
                BoundaryAnswersTest::greatestMust);
        CHECKS.sentence("11: all else as it is", BoundaryAnswersTest::greatestMustAllElseAsItIs);
        CHECKS.sentence("11: so that there would be a plan", BoundaryAnswersTest::greatestMustFits);
        CHECKS.sentence("11: NONE when there is no task j", BoundaryAnswersTest::greatestMustNone);
        CHECKS.sentence("12: The least loss of a plan if unit t were blocked",
                BoundaryAnswersTest::lossWithout);
        CHECKS.sentence("12: (also when it is already)", BoundaryAnswersTest::lossWithoutTheBlocked);
        CHECKS.sentence("12: NONE when there would be no plan", BoundaryAnswersTest::lossWithoutNoPlan);
        CHECKS.sentence("12: or t is not 0 .. 23", BoundaryAnswersTest::lossWithoutNoUnit);
        CHECKS.sentence("13: The greatest number of units of the span from a up to b",
                BoundaryAnswersTest::freeableSpan);
        CHECKS.sentence("13: that a plan can leave ungiven", BoundaryAnswersTest::freeableByAnyPlan);
        CHECKS.sentence("13: (blocked ones not counted)", BoundaryAnswersTest::freeableBlocked);
        CHECKS.sentence("13: NONE unless 0 <= a < b <= 24", BoundaryAnswersTest::freeableNoSpan);
        CHECKS.sentence("14: The number of units .. that the best plans leave ungiven",
                BoundaryAnswersTest::idle);
        CHECKS.sentence("14: blocked ones not counted", BoundaryAnswersTest::idleBlocked);
        CHECKS.sentence("Nothing is promised beyond the answers and state changes described above",
                BoundaryAnswersTest::answersChangeNothing);
        CHECKS.end();
    }

    private static void due(String call, long got, long want) {
        CHECKS.due(call, got, want);
    }

    private static ImpreciseDesk sixInUnitsOfTheirOwn() {
        ImpreciseDesk x = new ImpreciseDesk();
        for (int j = 0; j < 6; j++) x.bring(4 * j, 4 * j + 4, Desks.packed(1, 1, 1 + j));
        return x;
    }

    private static void tasks() {
        due("none", new ImpreciseDesk().tasks(), 0);
        for (int stay = 0; stay < 64; stay++) {
            ImpreciseDesk x = sixInUnitsOfTheirOwn();
            for (int j = 0; j < 6; j++) if ((stay >> j & 1) == 0) x.take(j);
            due("those that stay", x.tasks(), stay);
        }
        ImpreciseDesk x = Desks.desk(Desks.task(0, 1, 1, 0, 1));
        x.bring(0, 1, Desks.packed(1, 0, 1));
        due("without a refused one", x.tasks(), 1);
        x.bring(0, 0, Desks.packed(0, 0, 1));
        due("without a bad one", x.tasks(), 1);
        x.bring(5, 6, Desks.packed(0, 0, 1));
        due("with one that wants nothing", x.tasks(), 3);
    }

    private static void blocked() {
        due("none", new ImpreciseDesk().blocked(), 0);
        ImpreciseDesk x = new ImpreciseDesk();
        for (int t = 0; t < 24; t++) {
            x.block(t, true);
            due("units up to " + t, x.blocked(), (2 << t) - 1);
        }
        for (int t = 0; t < 24; t++) {
            x.block(t, false);
            due("units after " + t, x.blocked(), (1 << 24) - (2 << t));
        }
        ImpreciseDesk tight = Desks.desk(Desks.task(0, 1, 1, 0, 1), Desks.task(23, 24, 1, 0, 1));
        tight.block(0, true);
        tight.block(23, true);
        due("without refused ones", tight.blocked(), 0);
        tight.block(24, true);
        tight.block(-1, true);
        due("without bad ones", tight.blocked(), 0);
        due("given units are not blocked", sixInUnitsOfTheirOwn().blocked(), 0);
    }

    private static void loss() {
        due("of no tasks", new ImpreciseDesk().loss(), 0);
        due("of tasks with room", sixInUnitsOfTheirOwn().loss(), 0);
        ImpreciseDesk x = new ImpreciseDesk();
        for (int j = 0; j < 4; j++) x.bring(0, 24, Desks.packed(6, 6, 9));
        due("all mays of four", x.loss(), 216);
        for (int j = 4; j < 6; j++) x.bring(0, 24, Desks.packed(0, 6, 9));
        due("all mays of six, the greatest loss", x.loss(), 324);
        x.take(2);
        due("six units free again", x.loss(), 324 - 54 - 54);
        x.block(0, true);
        due("one of them blocked", x.loss(), 324 - 54 - 45);
        // taking what is worth most first is best, whoever is first by number or window
        ImpreciseDesk least = Desks.desk(Desks.task(0, 2, 0, 2, 1), Desks.task(0, 3, 0, 2, 8),
                Desks.task(1, 4, 0, 2, 9));
        due("the least of all plans", least.loss(), 2);
    }

    private static void kept() {
        for (int room = 0; room <= 8; room++) {
            ImpreciseDesk x = Desks.desk(Desks.task(0, 10, 2, 6, 5));
            Desks.blockSpan(x, 2 + room, 10);
            due("room for " + room + " more than the must", x.kept(0), room < 6 ? room : 6);
        }
        due("of a task that wants nothing", Desks.desk(Desks.task(0, 24, 0, 0, 1)).kept(0), 0);
        due("of a task with a must alone", Desks.desk(Desks.task(0, 24, 6, 0, 1)).kept(0), 0);
        due("of a task in blocked units", blockedAway().kept(0), 0);
        ImpreciseDesk six = sixInUnitsOfTheirOwn();
        for (int j = 0; j < 6; j++) due("of each of six", six.kept(j), 1);
        ImpreciseDesk five = Desks.desk(Desks.task(0, 1, 0, 1, 1), Desks.task(0, 1, 0, 1, 1),
                Desks.task(0, 1, 0, 1, 1), Desks.task(0, 1, 0, 1, 1), Desks.task(0, 1, 0, 1, 1),
                Desks.task(0, 1, 0, 1, 2));
        for (int j = 0; j < 6; j++) due("only of the one of most worth", five.kept(j), j == 5 ? 1 : 0);
    }

    private static ImpreciseDesk blockedAway() {
        ImpreciseDesk x = Desks.desk(Desks.task(7, 9, 0, 2, 3));
        Desks.blockSpan(x, 7, 9);
        return x;
    }

    private static void keptNone() {
        for (int j = 0; j < 6; j++) due("of " + j + " in a new object", new ImpreciseDesk().kept(j), -1);
        ImpreciseDesk x = sixInUnitsOfTheirOwn();
        for (int j : Desks.NO_TASKS) due("of " + j, x.kept(j), -1);
        for (int j = 0; j < 6; j++) {
            due("of " + j + " before", x.kept(j), 1);
            x.take(j);
            due("of " + j + " that was taken", x.kept(j), -1);
        }
    }

    private static void at() {
        ImpreciseDesk ends = Desks.desk(Desks.task(23, 24, 1, 0, 1), Desks.task(0, 1, 0, 1, 1));
        due("unit 0", ends.at(0), 1);
        due("unit 23", ends.at(23), 0);
        CHECKS.duePlan("each of six", sixInUnitsOfTheirOwn(), "00..11..22..33..44..55..");
        ImpreciseDesk full = new ImpreciseDesk();
        for (int j = 0; j < 6; j++) full.bring(0, 24, Desks.packed(j % 2 * 6, 6 - j % 2 * 4, 9 - j));
        // musts 0 6 0 6 0 6, then six units of the may of task 0
        CHECKS.duePlan("no unit left", full, "000000111111333333555555");
        due("kept 0", full.kept(0), 6);
        full.block(0, true);
        CHECKS.duePlan("unit 0 blocked", full, ".00000111111333333555555");
        full.block(23, true);
        CHECKS.duePlan("unit 23 too", full, ".0000111111333333555555.");
    }

    private static void atLeft() {
        ImpreciseDesk none = new ImpreciseDesk();
        for (int t = 0; t < 24; t++) due("no tasks, unit " + t, none.at(t), -1);
        ImpreciseDesk x = Desks.desk(Desks.task(4, 12, 2, 1, 5));
        x.block(5, true);
        due("before the window", x.at(3), -1);
        due("the first of the window", x.at(4), 0);
        due("a blocked one", x.at(5), -1);
        due("the last that is needed", x.at(7), 0);
        due("not needed, in the window", x.at(8), -1);
        due("the last of the window, not needed", x.at(11), -1);
        due("after the window", x.at(12), -1);
        x.take(0);
        due("its task was taken", x.at(4), -1);
        ImpreciseDesk nothing = Desks.desk(Desks.task(0, 24, 0, 0, 9));
        for (int t = 0; t < 24; t++) due("a task that wants nothing, unit " + t, nothing.at(t), -1);
    }

    private static void atNoUnit() {
        ImpreciseDesk x = new ImpreciseDesk();
        for (int j = 0; j < 4; j++) x.bring(0, 24, Desks.packed(6, 0, 1));
        for (int t : Desks.NO_UNITS) due("at " + t, x.at(t), -1);
        due("at 0", x.at(0), 0);
        due("at 23", x.at(23), 3);
    }

    private static void greatestMust() {
        for (int length = 1; length <= 24; length++)
            for (int must = 0; must <= 6 && must <= length; must++) {
                ImpreciseDesk x = Desks.desk(Desks.task(0, length, must, 3, 2));
                due("must " + must + " in " + length, x.greatestMust(0), length < 6 ? length : 6);
            }
        due("0 where all is blocked", blockedAway().greatestMust(0), 0);
        ImpreciseDesk x = Desks.desk(Desks.task(0, 6, 6, 0, 1), Desks.task(0, 6, 0, 6, 9));
        due("0 where others have all", x.greatestMust(1), 0);
        due("6 with the must that it has", x.greatestMust(0), 6);
    }

    private static void greatestMustAllElseAsItIs() {
        ImpreciseDesk x = Desks.desk(Desks.task(0, 6, 2, 6, 9), Desks.task(0, 6, 1, 6, 1),
                Desks.task(0, 8, 3, 0, 5));
        due("the musts of others stay, of six units and two beside", x.greatestMust(0), 4);
        due("the worth doesn't matter", x.greatestMust(1), 3);
        due("nor do the mays", x.greatestMust(2), 5);
        x.block(7, true);
        due("blocked units stay blocked", x.greatestMust(0), 3);
        x.block(6, true);
        due("both blocked", x.greatestMust(0), 2);
        due("no room to grow", x.greatestMust(1), 1);
        due("nor for the last", x.greatestMust(2), 3);
        due("its window stays", Desks.desk(Desks.task(5, 7, 0, 0, 1)).greatestMust(0), 2);
    }

    private static void greatestMustFits() {
        for (int room = 0; room <= 8; room++) {
            ImpreciseDesk x = Desks.desk(Desks.task(0, 8, 0, 6, 9));
            Desks.blockSpan(x, room, 8);
            int greatest = room < 6 ? room : 6;
            due("room for " + room, x.greatestMust(0), greatest);
            due("room for " + room + ", the greatest", x.change(0, Desks.packed(greatest, 6, 9)), 0);
            if (room < 6)
                due("room for " + room + ", one more", x.change(0, Desks.packed(greatest + 1, 6, 9)), -3);
        }
        // task 1 can only go from units 2 and 3 to the one unit 4, task 2 has unit 5
        ImpreciseDesk chain = Desks.desk(Desks.task(0, 4, 1, 0, 1), Desks.task(2, 5, 2, 0, 1),
                Desks.task(4, 6, 1, 0, 1));
        due("through a chain", chain.greatestMust(0), 3);
        chain.block(5, true);
        due("through a shorter chain", chain.greatestMust(0), 2);
        due("at its end", chain.greatestMust(2), 1);
    }

    private static void greatestMustNone() {
        for (int j = 0; j < 6; j++)
            due("of " + j + " in a new object", new ImpreciseDesk().greatestMust(j), -1);
        ImpreciseDesk x = sixInUnitsOfTheirOwn();
        for (int j : Desks.NO_TASKS) due("of " + j, x.greatestMust(j), -1);
        for (int j = 0; j < 6; j++) {
            due("of " + j + " before", x.greatestMust(j), 4);
            x.take(j);
            due("of " + j + " that was taken", x.greatestMust(j), -1);
        }
    }

    private static void lossWithout() {
        ImpreciseDesk none = new ImpreciseDesk();
        for (int t = 0; t < 24; t++) due("no tasks, unit " + t, none.lossWithout(t), 0);
        ImpreciseDesk ends = Desks.desk(Desks.task(0, 1, 0, 1, 4), Desks.task(23, 24, 0, 1, 7));
        due("unit 0", ends.lossWithout(0), 4);
        due("unit 1", ends.lossWithout(1), 0);
        due("unit 22", ends.lossWithout(22), 0);
        due("unit 23", ends.lossWithout(23), 7);
        ImpreciseDesk x = Desks.desk(Desks.task(2, 6, 1, 3, 9), Desks.task(4, 8, 1, 3, 2));
        due("loss with all", x.loss(), 4);
        // task 0 needs all of 2 .. 5 to keep its may, task 1 then has 6 and 7
        for (int t = 0; t < 24; t++)
            due("unit " + t, x.lossWithout(t), t < 2 || t >= 8 ? 4 : t < 6 ? 13 : 6);
        x.change(1, Desks.packed(1, 0, 2));
        for (int t = 2; t < 8; t++) due("a unit of six for five, " + t, x.lossWithout(t), t < 6 ? 9 : 0);
    }

    private static void lossWithoutTheBlocked() {
        ImpreciseDesk x = Desks.desk(Desks.task(0, 4, 2, 2, 5));
        x.block(1, true);
        x.block(20, true);
        due("loss", x.loss(), 5);
        due("a blocked unit of the window", x.lossWithout(1), 5);
        due("a blocked unit elsewhere", x.lossWithout(20), 5);
        due("another one", x.lossWithout(0), 10);
        x.block(3, true);
        due("a blocked unit, none to spare", x.lossWithout(1), 10);
        due("the other blocked unit, none to spare", x.lossWithout(3), 10);
        due("they are still blocked", x.blocked(), 2 + 8 + (1 << 20));
        ImpreciseDesk all = Desks.desk(Desks.task(0, 24, 0, 6, 9));
        Desks.blockSpan(all, 0, 24);
        for (int t = 0; t < 24; t++) due("all blocked, unit " + t, all.lossWithout(t), 54);
    }

    private static void lossWithoutNoPlan() {
        for (int must = 0; must <= 6; must++) {
            ImpreciseDesk x = Desks.desk(Desks.task(8, 14, must, 6, 1));
            for (int t = 8; t < 14; t++)
                due("must " + must + " of six, unit " + t, x.lossWithout(t), must == 6 ? -1 : must + 1);
            due("must " + must + ", a unit beside", x.lossWithout(14), must);
            due("must " + must + ", a unit before", x.lossWithout(7), must);
            Desks.blockSpan(x, 8, 14 - must);
            for (int t = 14 - must; t < 14; t++)
                due("must " + must + " of as many, unit " + t, x.lossWithout(t), -1);
        }
        ImpreciseDesk full = new ImpreciseDesk();
        for (int j = 0; j < 4; j++) full.bring(0, 24, Desks.packed(6, 0, 1));
        for (int t = 0; t < 24; t++) due("all given, unit " + t, full.lossWithout(t), -1);
        ImpreciseDesk mays = Desks.desk(Desks.task(5, 6, 0, 1, 1));
        due("the only unit of a may", mays.lossWithout(5), 1);
    }

    private static void lossWithoutNoUnit() {
        ImpreciseDesk x = Desks.desk(Desks.task(0, 24, 0, 6, 1));
        for (int t : Desks.NO_UNITS) due("lossWithout " + t, x.lossWithout(t), -1);
        due("lossWithout 0", x.lossWithout(0), 0);
        due("lossWithout 23", x.lossWithout(23), 0);
    }

    private static void freeableSpan() {
        ImpreciseDesk x = Desks.desk(Desks.task(3, 5, 2, 6, 9), Desks.task(20, 24, 4, 6, 9));
        for (int a = 0; a < 24; a++) {
            int free = 0;
            for (int b = a + 1; b <= 24; b++) {
                int t = b - 1;
                if (t != 3 && t != 4 && t < 20) free++;
                due("freeable " + a + ", " + b, x.freeable(a, b), free);
            }
        }
        due("all of a new object", new ImpreciseDesk().freeable(0, 24), 24);
        for (int t = 0; t < 24; t++) due("one unit of a new object", new ImpreciseDesk().freeable(t, t + 1), 1);
        ImpreciseDesk full = new ImpreciseDesk();
        for (int j = 0; j < 4; j++) full.bring(0, 24, Desks.packed(6, 0, 1));
        due("none where all is given", full.freeable(0, 24), 0);
        due("none of one unit", full.freeable(23, 24), 0);
    }

    private static void freeableByAnyPlan() {
        ImpreciseDesk mays = Desks.desk(Desks.task(0, 6, 0, 6, 9));
        due("a plan need not be a best one", mays.freeable(0, 6), 6);
        for (int must = 0; must <= 6; must++) {
            ImpreciseDesk x = Desks.desk(Desks.task(6, 12, must, 6, 9));
            due("must " + must + ": its window", x.freeable(6, 12), 6 - must);
            due("must " + must + ": half of it", x.freeable(6, 9), must < 3 ? 3 : 6 - must);
            due("must " + must + ": the other half", x.freeable(9, 12), must < 3 ? 3 : 6 - must);
        }
        // each goes out of the span where it can, task 2 can't
        ImpreciseDesk x = Desks.desk(Desks.task(0, 10, 2, 6, 9), Desks.task(8, 20, 3, 6, 9),
                Desks.task(9, 13, 1, 6, 9));
        due("the middle", x.freeable(8, 14), 5);
        due("the middle without the end of task 2", x.freeable(8, 12), 4);
        due("the start", x.freeable(0, 9), 8);
        due("and one unit more", x.freeable(0, 10), 8);
        due("all", x.freeable(0, 24), 18);
    }

    private static void freeableBlocked() {
        ImpreciseDesk x = Desks.desk(Desks.task(2, 8, 2, 6, 9));
        x.block(3, true);
        x.block(12, true);
        due("a blocked unit alone", x.freeable(3, 4), 0);
        due("a blocked unit alone, no window", x.freeable(12, 13), 0);
        due("beside it", x.freeable(12, 14), 1);
        due("the window", x.freeable(2, 8), 3);
        due("all", x.freeable(0, 24), 20);
        Desks.blockSpan(x, 4, 7);
        due("the window, none to spare", x.freeable(2, 8), 0);
        ImpreciseDesk all = new ImpreciseDesk();
        Desks.blockSpan(all, 0, 24);
        due("all blocked", all.freeable(0, 24), 0);
        all.block(23, false);
        due("all but one blocked", all.freeable(0, 24), 1);
        due("that one", all.freeable(23, 24), 1);
    }

    private static void freeableNoSpan() {
        for (int a = -2; a <= 26; a++) {
            ImpreciseDesk x = new ImpreciseDesk();
            for (int b = -2; b <= 26; b++) {
                boolean good = 0 <= a && a < b && b <= 24;
                due("freeable " + a + ", " + b, x.freeable(a, b), good ? b - a : -1);
            }
        }
        int[] far = {Desks.LEAST, Desks.LEAST + 5, -32, -27, 29, 32, 37, 56, Desks.GREATEST};
        ImpreciseDesk x = new ImpreciseDesk();
        for (int v : far) {
            for (int w : far) due("freeable " + v + ", " + w, x.freeable(v, w), -1);
            due("freeable 3, " + v, x.freeable(3, v), -1);
            due("freeable " + v + ", 9", x.freeable(v, 9), -1);
        }
    }

    private static void idle() {
        due("of a new object", new ImpreciseDesk().idle(), 24);
        for (int must = 0; must <= 6; must++)
            for (int may = 0; may <= 6; may++) {
                ImpreciseDesk x = Desks.desk(Desks.task(0, 24, must, may, 1));
                due("must " + must + ", may " + may, x.idle(), 24 - must - may);
            }
        ImpreciseDesk full = Desks.desk(Desks.task(0, 12, 6, 6, 1), Desks.task(12, 24, 6, 6, 1));
        due("none left", full.idle(), 0);
        full.bring(0, 24, Desks.packed(0, 6, 9));
        due("never less than none", full.idle(), 0);
        full.take(0);
        due("six left", full.idle(), 6);
        ImpreciseDesk narrow = Desks.desk(Desks.task(3, 6, 1, 6, 1));
        due("what no window reaches is left", narrow.idle(), 21);
    }

    private static void idleBlocked() {
        ImpreciseDesk x = new ImpreciseDesk();
        for (int t = 0; t < 24; t++) {
            x.block(t, true);
            due("blocked up to " + t, x.idle(), 23 - t);
        }
        due("a may where all is blocked", x.bring(0, 24, Desks.packed(0, 6, 9)), 0);
        due("all blocked", x.idle(), 0);
        for (int t = 0; t < 24; t++) {
            x.block(t, false);
            due("unblocked up to " + t, x.idle(), t < 6 ? 0 : t - 5);
        }
        ImpreciseDesk one = Desks.desk(Desks.task(0, 2, 1, 1, 1));
        one.block(0, true);
        due("a blocked unit of a window", one.idle(), 22);
        one.block(9, true);
        due("and one beside", one.idle(), 21);
    }

    private static void answersChangeNothing() {
        ImpreciseDesk x = crowded();
        String before = Desks.look(x);
        for (int a = 0; a < 24; a += 5) x.freeable(a, 24);
        CHECKS.due("a second look", Desks.look(x), before);
        CHECKS.dueSame("after looks", x, crowded());
    }

    private static ImpreciseDesk crowded() {
        ImpreciseDesk x = Desks.desk(Desks.task(0, 8, 2, 6, 3), Desks.task(3, 9, 3, 2, 7),
                Desks.task(5, 20, 4, 4, 7), Desks.task(18, 24, 1, 6, 1), Desks.task(0, 24, 2, 3, 5),
                Desks.task(21, 23, 1, 1, 9));
        x.block(4, true);
        x.block(17, true);
        return x;
    }
}
