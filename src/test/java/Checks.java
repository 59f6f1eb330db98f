/** Counts and prints the answers that are not the ones that are due. */
final class Checks {
    private String about = "";
    private int made = 0;
    private int wrong = 0;

    /** Runs the test of one sentence of the document; a test that checks nothing is wrong. */
    void sentence(String words, Runnable test) {
        about = "\"" + words + "\": ";
        int before = made;
        try {
            test.run();
        } catch (RuntimeException thrown) {
            due("threw " + thrown, true, false);
        }
        due("checks something", made > before, true);
        about = "";
    }

    void due(String call, long got, long want) {
        made++;
        if (got != want) {
            wrong++;
            System.out.println(about + call + " answered " + got + ", due is " + want);
        }
    }

    void due(String call, boolean got, boolean want) {
        due(call, got ? 1L : 0L, want ? 1L : 0L);
    }

    void due(String what, String got, String want) {
        made++;
        if (!got.equals(want)) {
            wrong++;
            System.out.println(about + what + " is " + got + ", due is " + want);
        }
    }

    /** The first plan, as Desks.plan tells it; points at its end may be left out. */
    void duePlan(String where, ImpreciseDesk x, String want) {
        String padded = (want + ".".repeat(24)).substring(0, 24);
        due(where + ": the first plan", Desks.plan(x), padded);
    }

    /** Both answer the same now, and also after what might have been hidden comes to light. */
    void dueSame(String where, ImpreciseDesk x, ImpreciseDesk y) {
        due(where, Desks.look(x), Desks.look(y));
        due(where + ", unblocked", Desks.lookUnblocked(x), Desks.lookUnblocked(y));
        due(where + ", emptied", Desks.lookEmptied(x), Desks.lookEmptied(y));
    }

    boolean allAsDue() {
        return wrong == 0;
    }

    void end() {
        System.out.println(made + " checks, " + wrong + " wrong");
        if (wrong != 0 || made == 0) {
            System.exit(1);
        }
    }
}
