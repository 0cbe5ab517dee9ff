/** Promise 16: every answer of check with its step, in the order in which it is looked for. */
public final class CheckTest {
    private static final Due DUE = new Due();
    private static final int START = ConnectionProver.STEP_START;
    private static final int EXT = ConnectionProver.STEP_EXT;
    private static final int RED = ConnectionProver.STEP_RED;
    private static final int VALID = ConnectionProver.VALID;
    private static final int CHK_START = ConnectionProver.CHK_START;
    private static final int CHK_CLAUSE = ConnectionProver.CHK_CLAUSE;
    private static final int CHK_LIT = ConnectionProver.CHK_LIT;
    private static final int CHK_PATH = ConnectionProver.CHK_PATH;
    private static final int CHK_COMPLEMENT = ConnectionProver.CHK_COMPLEMENT;
    private static final int CHK_ARGS = ConnectionProver.CHK_ARGS;
    private static final int CHK_CYCLE = ConnectionProver.CHK_CYCLE;
    private static final int CHK_EXTRA = ConnectionProver.CHK_EXTRA;
    private static final int CHK_OPEN = ConnectionProver.CHK_OPEN;

    public static void main(String[] args) {
        firstStep();
        emptyClause();
        laterSteps();
        extension();
        orderOfGoals();
        reduction();
        orderOfPath();
        complement();
        arguments();
        cycles();
        longChains();
        longProofs();
        manyOpenGoals();
        clausesAsTheyAre();
        nothingElseChanges();
        DUE.finish();
    }

    /** Writes the steps (three numbers each) into an emptied buffer and checks them. */
    private static void due(ConnectionProver x, int want, int step, int... steps) {
        x.clearProof();
        dueWithBindings(x, want, step, steps);
    }

    private static void dueWithBindings(ConnectionProver x, int want, int step, int... steps) {
        for (int i = 0; i < steps.length; i += 3) {
            x.addStep(steps[i], steps[i + 1], steps[i + 2]);
        }
        dueNow(x, java.util.Arrays.toString(steps), want, step);
    }

    private static void dueNow(ConnectionProver x, String what, int want, int step) {
        DUE.due("check of " + what, x.check(), want);
        DUE.due("step of " + what, x.getCheckStep(), step);
    }

    private static void firstStep() {
        ConnectionProver x = Entry.of("p; -p");
        DUE.due("before any check", x.getCheckStep(), -1);
        due(x, ConnectionProver.CHK_EMPTY, 0);
        due(x, CHK_START, 0, EXT, 0, 0);
        due(x, CHK_START, 0, RED, 0, 0);
        due(x, CHK_START, 0, EXT, 9, 9);
        due(x, CHK_CLAUSE, 0, START, -1, 0);
        due(x, CHK_CLAUSE, 0, START, 2, 0, START, 0, 0);
        due(x, CHK_OPEN, 1, START, 1, -7);
        Entry.pend(x, "p");
        due(x, CHK_CLAUSE, 0, START, 2, 0);
        x.endClause();
        due(x, CHK_OPEN, 1, START, 2, 0);
        due(new ConnectionProver(), CHK_CLAUSE, 0, START, 0, 0);
    }

    private static void emptyClause() {
        ConnectionProver x = Entry.of("p; ");
        due(x, VALID, -1, START, 1, 5);
        due(x, CHK_EXTRA, 1, START, 1, 0, START, 1, 0);
        due(x, CHK_EXTRA, 1, START, 1, 0, EXT, 9, 9);
        due(x, CHK_EXTRA, 1, START, 1, 0, RED, -1, 0, RED, -1, 0);
        due(x, CHK_LIT, 1, START, 0, 0, EXT, 1, 0);
    }

    private static void laterSteps() {
        ConnectionProver x = Entry.of("p; -p");
        due(x, CHK_START, 1, START, 0, 0, START, 1, 0);
        due(x, CHK_START, 1, START, 0, 0, START, 9, 0);
        due(x, VALID, -1, START, 0, 0, EXT, 1, 0);
        due(x, VALID, -1, START, 1, 0, EXT, 0, 0);
        due(x, CHK_EXTRA, 2, START, 0, 0, EXT, 1, 0, START, 0, 0);
        due(x, CHK_EXTRA, 2, START, 0, 0, EXT, 1, 0, EXT, 1, 0);
        due(x, CHK_EXTRA, 2, START, 0, 0, EXT, 1, 0, RED, 0, 0);
    }

    private static void extension() {
        ConnectionProver x = Entry.of("p; -p | q; -q");
        due(x, CHK_CLAUSE, 1, START, 0, 0, EXT, -1, 0);
        due(x, CHK_CLAUSE, 1, START, 0, 0, EXT, 3, 0);
        due(x, CHK_CLAUSE, 1, START, 0, 0, EXT, 3, -1);
        due(x, CHK_LIT, 1, START, 0, 0, EXT, 1, -1);
        due(x, CHK_LIT, 1, START, 0, 0, EXT, 1, 2);
        due(x, CHK_LIT, 1, START, 0, 0, EXT, 2, 1);
        due(x, CHK_COMPLEMENT, 1, START, 0, 0, EXT, 1, 1);
        due(x, CHK_OPEN, 2, START, 0, 0, EXT, 1, 0);
        due(x, VALID, -1, START, 0, 0, EXT, 1, 0, EXT, 2, 0);
        due(x, VALID, -1, START, 2, 0, EXT, 1, 1, EXT, 0, 0);
        Entry.pend(x, "-p");
        due(x, CHK_CLAUSE, 1, START, 0, 0, EXT, 3, 0);
    }

    private static void orderOfGoals() {
        ConnectionProver x = Entry.of("p | q | r; -p; -q; -r; -p | q | r; -q | p | r; -r | p | q; -p");
        due(x, VALID, -1, START, 0, 0, EXT, 1, 0, EXT, 2, 0, EXT, 3, 0);
        due(x, CHK_COMPLEMENT, 1, START, 0, 0, EXT, 3, 0);
        due(x, CHK_COMPLEMENT, 2, START, 0, 0, EXT, 1, 0, EXT, 3, 0);
        // The goals of an extension come before those that were open, the smallest first.
        due(x, VALID, -1, START, 0, 0,
                EXT, 4, 0, EXT, 2, 0, EXT, 3, 0, EXT, 2, 0, EXT, 3, 0);
        due(x, CHK_COMPLEMENT, 2, START, 0, 0, EXT, 4, 0, EXT, 3, 0);
        due(x, CHK_COMPLEMENT, 3, START, 0, 0, EXT, 4, 0, EXT, 2, 0, EXT, 2, 0);
        x = Entry.of("p; q | -p | r; q | r | -p; -q; -r");
        due(x, VALID, -1, START, 0, 0, EXT, 1, 1, EXT, 3, 0, EXT, 4, 0);
        due(x, VALID, -1, START, 0, 0, EXT, 2, 2, EXT, 3, 0, EXT, 4, 0);
        due(x, CHK_COMPLEMENT, 2, START, 0, 0, EXT, 1, 1, EXT, 4, 0);
        due(x, CHK_COMPLEMENT, 2, START, 0, 0, EXT, 2, 2, EXT, 4, 0);
    }

    private static void reduction() {
        ConnectionProver x = Entry.of("p | p; -p | -p; p; -p");
        due(x, CHK_PATH, 1, START, 2, 0, RED, 0, 0);
        due(x, CHK_PATH, 1, START, 2, 0, RED, -1, 0);
        due(x, VALID, -1, START, 2, 0, EXT, 1, 0, RED, 0, 0);
        due(x, VALID, -1, START, 2, 0, EXT, 1, 1, RED, 0, 9);
        due(x, CHK_PATH, 2, START, 2, 0, EXT, 1, 0, RED, 1, 0);
        due(x, CHK_PATH, 2, START, 2, 0, EXT, 1, 0, RED, -1, 0);
        // The second goal of the root has an empty path, whatever was closed before it.
        due(x, CHK_PATH, 2, START, 0, 0, EXT, 3, 0, RED, 0, 0);
        due(x, CHK_PATH, 3, START, 0, 0, EXT, 1, 0, RED, 0, 0, RED, 0, 0);
        due(x, VALID, -1, START, 0, 0, EXT, 1, 0, RED, 0, 0, EXT, 1, 1, RED, 0, 0);
    }

    private static void orderOfPath() {
        ConnectionProver x = Entry.of("p; -p | q; -q | r; -r | -p | -q; -r | -q | -r; -r | s; -s | -p | -r");
        int[] down = {START, 0, 0, EXT, 1, 0, EXT, 2, 0};
        due(x, VALID, -1, join(down, EXT, 3, 0, RED, 0, 0, RED, 1, 0));
        due(x, CHK_COMPLEMENT, 4, join(down, EXT, 3, 0, RED, 1, 0));
        due(x, CHK_COMPLEMENT, 4, join(down, EXT, 3, 0, RED, 2, 0));
        due(x, CHK_COMPLEMENT, 5, join(down, EXT, 3, 0, RED, 0, 0, RED, 2, 0));
        due(x, CHK_PATH, 5, join(down, EXT, 3, 0, RED, 0, 0, RED, 3, 0));
        // The goal that was extended is the last entry of the path.
        due(x, VALID, -1, join(down, EXT, 4, 0, RED, 1, 0, RED, 2, 0));
        due(x, CHK_COMPLEMENT, 5, join(down, EXT, 4, 0, RED, 1, 0, RED, 1, 0));
        due(x, VALID, -1, join(down, EXT, 5, 0, EXT, 6, 0, RED, 0, 0, RED, 2, 0));
        due(x, CHK_PATH, 6, join(down, EXT, 5, 0, EXT, 6, 0, RED, 0, 0, RED, 4, 0));
    }

    private static int[] join(int[] first, int... second) {
        int[] all = java.util.Arrays.copyOf(first, first.length + second.length);
        System.arraycopy(second, 0, all, first.length, second.length);
        return all;
    }

    private static void complement() {
        ConnectionProver x = Entry.of("p(c0); p(X0); -q(c0); -p(c0) | p(c0); q(X1) | -p(c1)");
        due(x, CHK_COMPLEMENT, 1, START, 0, 0, EXT, 1, 0);
        due(x, CHK_COMPLEMENT, 1, START, 0, 0, EXT, 2, 0);
        due(x, CHK_COMPLEMENT, 1, START, 0, 0, EXT, 3, 1);
        due(x, CHK_COMPLEMENT, 1, START, 0, 0, EXT, 4, 0);
        due(x, CHK_COMPLEMENT, 2, START, 0, 0, EXT, 3, 0, RED, 0, 0);
        due(x, CHK_ARGS, 1, START, 0, 0, EXT, 4, 1);
        x.clearProof();
        x.bind(1, 2, 1, 3);
        x.bind(1, 3, 1, 2);
        dueWithBindings(x, CHK_COMPLEMENT, 1, START, 0, 0, EXT, 1, 0);
    }

    private static void arguments() {
        ConnectionProver x = Entry.of("p(c0,c1); -p(c0,c1); -p(c1,c1); -p(c0,c0); -p(X0,X1); -p(X1,X0) | -p(X0,X1)");
        due(x, VALID, -1, START, 0, 0, EXT, 1, 0);
        due(x, CHK_ARGS, 1, START, 0, 0, EXT, 2, 0);
        due(x, CHK_ARGS, 1, START, 0, 0, EXT, 3, 0);
        due(x, CHK_ARGS, 1, START, 0, 0, EXT, 4, 0);
        x.bind(1, 2, 0, 0);
        dueNow(x, "X0 = c0", CHK_ARGS, 1);
        x.bind(1, 3, 0, 1);
        dueNow(x, "X0 = c0, X1 = c1", VALID, -1);
        x.bind(1, 2, 0, 1);
        x.bind(1, 3, 0, 0);
        dueNow(x, "X0 = c1, X1 = c0", CHK_ARGS, 1);
        x = Entry.of("p(X0,X1); -p(X1,X0); -p(X0,X0)");
        due(x, CHK_ARGS, 1, START, 0, 0, EXT, 1, 0);
        x.bind(0, 2, 1, 3);
        dueNow(x, "first position bound", CHK_ARGS, 1);
        x.bind(1, 2, 0, 3);
        dueNow(x, "both positions bound", VALID, -1);
        due(x, CHK_ARGS, 1, START, 0, 0, EXT, 2, 0);
        x.bind(0, 2, 1, 2);
        x.bind(0, 3, 1, 2);
        dueNow(x, "two variables bound to one", VALID, -1);
        unboundAgreesWithItself();
    }

    private static void unboundAgreesWithItself() {
        ConnectionProver x = Entry.of("p(X0); -p(X0) | -p(X1)");
        x.bind(1, 2, 0, 2);
        dueWithBindings(x, CHK_ARGS, 2, START, 0, 0, EXT, 1, 0, RED, 0, 0);
        x.bind(1, 3, 0, 2);
        dueNow(x, "a path entry's own unbound variable", VALID, -1);
    }

    private static void cycles() {
        ConnectionProver x = Entry.of("p(X0,X1); -p(c0,c1); -p(X0,X1)");
        x.bind(0, 2, 0, 3);
        x.bind(0, 3, 0, 2);
        dueWithBindings(x, CHK_CYCLE, 1, START, 0, 0, EXT, 1, 0);
        // The goal's argument agrees or not only when neither of the two has a cycle.
        x = Entry.of("p(X0,X1); -p(c0,c1); -p(X0,X1)");
        x.bind(0, 3, 5, 2);
        x.bind(5, 2, 6, 2);
        x.bind(6, 2, 5, 2);
        dueWithBindings(x, CHK_ARGS, 1, START, 0, 0, EXT, 1, 0);
        x.bind(0, 2, 0, 0);
        dueNow(x, "a cycle in position 1", CHK_CYCLE, 1);
        x.bind(0, 2, 0, 1);
        dueNow(x, "position 0 comes first", CHK_ARGS, 1);
        x.bind(6, 2, 0, 1);
        x.bind(0, 2, 0, 0);
        dueNow(x, "the cycle is broken", VALID, -1);
        // The partner's cycle, and one in both.
        x = Entry.of("p(c0); -p(X0)");
        x.bind(1, 2, 1, 3);
        x.bind(1, 3, 1, 2);
        dueWithBindings(x, CHK_CYCLE, 1, START, 0, 0, EXT, 1, 0);
        x.clearProof();
        x.bind(0, 2, 1, 3);
        x.bind(1, 3, 0, 2);
        dueWithBindings(x, CHK_CYCLE, 1, START, 1, 0, EXT, 0, 0);
        x = Entry.of("p(X0); -p(X0)");
        x.bind(0, 2, 1, 2);
        x.bind(1, 2, 0, 2);
        dueWithBindings(x, CHK_CYCLE, 1, START, 0, 0, EXT, 1, 0);
        // A cycle that no argument reaches does no harm.
        x = Entry.of("p(c0); -p(c0)");
        x.bind(0, 2, 0, 3);
        x.bind(0, 3, 0, 2);
        dueWithBindings(x, VALID, -1, START, 0, 0, EXT, 1, 0);
    }

    /** The longest chain has all 512 variables and then a constant; it is no cycle. */
    private static void longChains() {
        ConnectionProver x = Entry.of("p(X0); -p(c1)");
        for (int k = 0; k < 511; k++) {
            x.bind(k / 2, 2 + k % 2, (k + 1) / 2, 2 + (k + 1) % 2);
        }
        dueWithBindings(x, CHK_ARGS, 1, START, 0, 0, EXT, 1, 0);
        x.bind(255, 3, 0, 1);
        dueNow(x, "512 moves to c1", VALID, -1);
        x.bind(255, 3, 0, 0);
        dueNow(x, "512 moves to c0", CHK_ARGS, 1);
        for (int k = 0; k < 511; k += 50) {
            x.bind(255, 3, k / 2, 2 + k % 2);
            dueNow(x, "a cycle back to variable " + k, CHK_CYCLE, 1);
        }
        x.bind(255, 3, 255, 2);
        dueNow(x, "a cycle of the last two", CHK_CYCLE, 1);
        x = Entry.of("p(X0); -p(X1)");
        for (int k = 0; k < 511; k++) {
            x.bind(k / 2, 2 + k % 2, (k + 1) / 2, 2 + (k + 1) % 2);
        }
        dueWithBindings(x, VALID, -1, START, 0, 0, EXT, 1, 0);
    }

    private static void longProofs() {
        ConnectionProver x = Entry.of("p; -p | p; -p; -p | -p");
        x.addStep(START, 0, 0);
        for (int i = 1; i < 255; i++) {
            x.addStep(EXT, 1, 0);
        }
        dueNow(x, "255 steps", CHK_OPEN, 255);
        x.addStep(EXT, 2, 0);
        dueNow(x, "256 steps", VALID, -1);
        for (int entry = -1; entry < 256; entry++) {
            x.clearProof();
            x.addStep(START, 0, 0);
            for (int i = 1; i < 254; i++) {
                x.addStep(EXT, 1, 0);
            }
            x.addStep(EXT, 3, 1);
            x.addStep(RED, entry, 0);
            boolean valid = entry >= 0 && entry < 254;
            dueNow(x, "RED to entry " + entry, valid ? VALID : CHK_PATH, valid ? -1 : 255);
        }
    }

    private static void manyOpenGoals() {
        ConnectionProver x = Entry.of("p | p | p; p | p | -p; -p");
        x.addStep(START, 0, 0);
        for (int i = 1; i < 256; i++) {
            x.addStep(EXT, 1, 2);
        }
        dueNow(x, "258 open goals", CHK_OPEN, 256);
        x.clearProof();
        x.addStep(START, 0, 0);
        for (int i = 1; i <= 126; i++) {
            x.addStep(EXT, 1, 2);
        }
        for (int i = 1; i <= 128; i++) {
            x.addStep(EXT, 2, 0);
        }
        dueNow(x, "129 goals opened and 128 closed", CHK_OPEN, 255);
        x.addStep(EXT, 2, 0);
        dueNow(x, "129 goals opened and closed", VALID, -1);
    }

    private static void clausesAsTheyAre() {
        ConnectionProver x = Entry.of("p");
        due(x, CHK_CLAUSE, 1, START, 0, 0, EXT, 1, 0);
        x.endClause();
        dueNow(x, "with an empty clause 1", CHK_LIT, 1);
        x.clearClauses();
        dueNow(x, "without clauses", CHK_CLAUSE, 0);
        Entry.add(x, "p(c0); -p(c1)");
        dueNow(x, "with other arguments", CHK_ARGS, 1);
        x.clearClauses();
        Entry.add(x, "p(c0,c1); -p(c0,c1) | q");
        dueNow(x, "with a longer clause", CHK_OPEN, 2);
        x.clearClauses();
        Entry.add(x, "; -p");
        dueNow(x, "with an empty clause 0", CHK_EXTRA, 1);
        x.clearClauses();
        Entry.add(x, "p; -p");
        dueNow(x, "with both", VALID, -1);
    }

    private static void nothingElseChanges() {
        ConnectionProver x = Entry.of("p(c0); -p(X0)");
        Entry.pend(x, "q");
        x.prove();
        due(x, CHK_OPEN, 1, START, 0, 0);
        x.addStep(EXT, 1, 0);
        dueNow(x, "the step is there", CHK_ARGS, 1);
        x.bind(1, 2, 0, 0);
        for (int round = 0; round < 3; round++) {
            dueNow(x, "the steps and bindings stay", VALID, -1);
            DUE.due("the kept proof stays", x.hasProof(), true);
            DUE.due("unsealed stays", x.isSealed(), false);
            DUE.due("clauses stay", x.getClauseCount(), 2);
            DUE.due("pending literals stay", x.getClauseLength(2), 1);
            DUE.due("the kept proof", x.prove(), ConnectionProver.PROVED);
        }
        DUE.due("the next step", x.addStep(EXT, 0, 0), 2);
        dueNow(x, "an extra step", CHK_EXTRA, 2);
        x.adoptProof();
        DUE.due("adopt keeps the step", x.getCheckStep(), 2);
        dueNow(x, "the adopted proof", VALID, -1);
        DUE.due("sealed stays", x.isSealed(), true);
    }
}
