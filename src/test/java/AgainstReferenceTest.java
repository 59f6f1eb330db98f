import java.util.Random;

/** Long runs of calls, always the same ones, answered by the class and by the reference. */
public final class AgainstReferenceTest {
    private static final int MOST_CALLS = 512;
    private static final int CALLS_OF_A_LOOK = 90;

    private final Checks checks;
    private final Random random;
    private final int run;
    private final int greatestPart;
    private final ImpreciseDesk desk = new ImpreciseDesk();
    private final ReferenceDesk reference = new ReferenceDesk();
    private int calls = 0;

    private AgainstReferenceTest(Checks checks, int run, int greatestPart) {
        this.checks = checks;
        this.run = run;
        this.greatestPart = greatestPart;
        this.random = new Random(run);
    }

    public static void main(String[] args) {
        Checks checks = new Checks();
        for (int run = 0; run < 160 && checks.allAsDue(); run++) {
            // great parts take the reference long
            int greatestPart = run % 8 == 0 ? 6 : 1 + run % 4;
            new AgainstReferenceTest(checks, run, greatestPart).go(run % 8 == 0 ? 1 : 4);
        }
        checks.end();
    }

    private void go(int looks) {
        for (int look = 0; look < looks; look++) {
            int steps = 5 + random.nextInt(20);
            for (int step = 0; step < steps; step++) step();
            look();
        }
    }

    private void due(String call, long got, long want) {
        calls++;
        if (calls <= MOST_CALLS) checks.due("run " + run + ", call " + calls + ": " + call, got, want);
    }

    private int packed() {
        if (random.nextInt(12) == 0) return random.nextInt(800) - 80;
        int worth = random.nextBoolean() ? 1 + random.nextInt(9) : 4 + random.nextInt(2);
        return random.nextInt(greatestPart + 1) + 8 * random.nextInt(greatestPart + 1) + 64 * worth;
    }

    private void step() {
        int kind = random.nextInt(10);
        if (kind < 4) bring();
        else if (kind < 5) take();
        else if (kind < 8) block();
        else change();
        due("tasks()", desk.tasks(), reference.tasks());
        due("blocked()", desk.blocked(), reference.blocked());
    }

    private void bring() {
        int r = random.nextInt(25) - (random.nextInt(20) == 0 ? 1 : 0);
        int d = r + 1 + random.nextInt(12) - (random.nextInt(20) == 0 ? 2 : 0);
        if (d > 24 && random.nextInt(10) > 0) d = 24;
        int packed = packed();
        due("bring(" + r + ", " + d + ", " + packed + ")",
                desk.bring(r, d, packed), reference.bring(r, d, packed));
    }

    private void take() {
        int j = random.nextInt(8) - 1;
        due("take(" + j + ")", desk.take(j) ? 1 : 0, reference.take(j) ? 1 : 0);
    }

    private void block() {
        int t = random.nextInt(26) - 1;
        boolean on = random.nextInt(3) > 0;
        due("block(" + t + ", " + on + ")", desk.block(t, on), reference.block(t, on));
    }

    private void change() {
        int j = random.nextInt(8) - 1;
        int packed = packed();
        due("change(" + j + ", " + packed + ")", desk.change(j, packed), reference.change(j, packed));
    }

    private void look() {
        if (calls + CALLS_OF_A_LOOK > MOST_CALLS) return;
        due("loss()", desk.loss(), reference.loss());
        due("idle()", desk.idle(), reference.idle());
        for (int j = -1; j <= 6; j++) {
            due("kept(" + j + ")", desk.kept(j), reference.kept(j));
            due("greatestMust(" + j + ")", desk.greatestMust(j), reference.greatestMust(j));
        }
        for (int t = -1; t <= 24; t++) {
            due("at(" + t + ")", desk.at(t), reference.at(t));
            due("lossWithout(" + t + ")", desk.lossWithout(t), reference.lossWithout(t));
        }
        for (int k = 0; k < 6; k++) {
            int a = random.nextInt(26) - 1;
            int b = random.nextInt(27) - 1;
            due("freeable(" + a + ", " + b + ")", desk.freeable(a, b), reference.freeable(a, b));
        }
        due("freeable(0, 24)", desk.freeable(0, 24), reference.freeable(0, 24));
    }
}
