/** Promises 11 to 15: the buffer, what is written into it, and its seal. */
public final class BufferTest {
    private static final Due DUE = new Due();
    private static final int OK = ConnectionProver.OK;
    private static final int ARG = ConnectionProver.ERR_ARG;
    private static final int SEALED = ConnectionProver.ERR_SEALED;
    private static final int VALID = ConnectionProver.VALID;
    private static final int ARGS = ConnectionProver.CHK_ARGS;
    private static final int MIN = Integer.MIN_VALUE;
    private static final int MAX = Integer.MAX_VALUE;

    public static void main(String[] args) {
        adoptWithoutProof();
        adoptReplacesTheBuffer();
        clearProof();
        seal();
        addStep();
        addStepKeepsItsNumbers();
        bindWrong();
        bindEveryVariable();
        bindReplaces();
        bindToVariables();
        DUE.finish();
    }

    private static void adoptWithoutProof() {
        ConnectionProver x = Entry.of("p; -p");
        x.addStep(0, 0, 0);
        x.addStep(1, 1, 0);
        DUE.due("adopt before prove", x.adoptProof(), ConnectionProver.ERR_NO_PROOF);
        DUE.due("no seal", x.isSealed(), false);
        DUE.due("the buffer stays", x.check(), VALID);
    }

    private static void adoptReplacesTheBuffer() {
        ConnectionProver x = Entry.of("p(c0); -p(X0)");
        for (int i = 0; i < 256; i++) {
            x.addStep(2, i, i);
            x.bind(i, 2, 0, 1);
            x.bind(i, 3, (i + 1) % 256, 3);
        }
        x.check();
        x.prove();
        Entry.pend(x, "p(X1)");
        for (int round = 0; round < 3; round++) {
            DUE.due("adopt", x.adoptProof(), OK);
            DUE.due("the last check step stays", x.getCheckStep(), round == 0 ? 0 : -1);
            DUE.due("sealed", x.isSealed(), true);
            DUE.due("valid", x.check(), VALID);
            DUE.due("still kept", x.hasProof(), true);
            DUE.due("clauses stay", x.getClauseCount(), 2);
            DUE.due("pending literals stay", x.getClauseLength(2), 1);
        }
        x.clearProof();
        DUE.due("adopt after clearProof", x.adoptProof(), OK);
        DUE.due("valid", x.check(), VALID);
    }

    private static void clearProof() {
        ConnectionProver x = Entry.of("p(c0); -p(X0)");
        Entry.pend(x, "q(c0)");
        x.prove();
        for (int round = 0; round < 2; round++) {
            if (round == 0) {
                x.adoptProof();
            } else {
                x.addStep(0, 1, 0);
                x.addStep(1, 0, 0);
                DUE.due("no variable bound after a clear", x.check(), ARGS);
                x.bind(0, 2, 0, 0);
            }
            DUE.due("valid before", x.check(), VALID);
            x.clearProof();
            DUE.due("the last check step stays", x.getCheckStep(), -1);
            DUE.due("unsealed", x.isSealed(), false);
            DUE.due("empty", x.check(), ConnectionProver.CHK_EMPTY);
            DUE.due("the kept proof stays", x.hasProof(), true);
            DUE.due("clauses stay", x.getClauseCount(), 2);
            DUE.due("pending literals stay", x.getClauseLength(2), 1);
            DUE.due("arities stay", x.addLiteral(0, 1, -1, -1), ConnectionProver.ERR_ARITY);
            DUE.due("the first step again", x.addStep(0, 1, 0), 0);
            x.clearProof();
        }
        everyVariableIsUnbound();
    }

    /** Each copy's one variable is left unbound in turn after it was bound before the clear. */
    private static void everyVariableIsUnbound() {
        for (int var = 2; var < 4; var++) {
            ConnectionProver x = Entry.of("p(V); -p(V) | p(V); -p(V)".replace("V", "X" + (var - 2)));
            writeChain(x, var, -1);
            DUE.due("all bound to c0", x.check(), VALID);
            for (int i = 0; i < 256; i++) {
                x.clearProof();
                writeChain(x, var, i);
                DUE.due("copy " + i + " unbound", x.check(), ARGS);
                DUE.due("at step", x.getCheckStep(), i == 0 ? 1 : i);
                x.bind(i, var, 0, 0);
                DUE.due("and bound", x.check(), VALID);
            }
        }
    }

    /** A proof of 256 steps, with the variable of every copy bound to c0 but for one copy. */
    private static void writeChain(ConnectionProver x, int var, int unbound) {
        for (int i = 0; i < 256; i++) {
            x.addStep(i == 0 ? 0 : 1, i == 0 ? 0 : i == 255 ? 2 : 1, 0);
            if (i != unbound) {
                x.bind(i, var, 0, 0);
            }
        }
    }

    private static void seal() {
        ConnectionProver x = Entry.of("p(c0); -p(X0)");
        DUE.due("unsealed at first", x.isSealed(), false);
        x.prove();
        DUE.due("unsealed after prove", x.isSealed(), false);
        x.adoptProof();
        DUE.due("sealed after adopt", x.isSealed(), true);
        DUE.due("step refused", x.addStep(0, 0, 0), SEALED);
        DUE.due("wrong step refused", x.addStep(7, 0, 0), SEALED);
        DUE.due("bind refused", x.bind(0, 2, 0, 0), SEALED);
        DUE.due("wrong bind refused", x.bind(-1, 7, 0, 9), SEALED);
        for (int copy = 0; copy < 3; copy++) {
            x.bind(copy, 2, 0, 1);
        }
        x.prove();
        DUE.due("sealed after prove", x.isSealed(), true);
        DUE.due("valid", x.check(), VALID);
        DUE.due("at step", x.getCheckStep(), -1);
        DUE.due("sealed after check", x.isSealed(), true);
        x.clearProof();
        DUE.due("unsealed after clearProof", x.isSealed(), false);
        DUE.due("step accepted", x.addStep(0, 0, 0), 0);
        DUE.due("bind accepted", x.bind(0, 2, 0, 0), OK);
    }

    private static void addStep() {
        ConnectionProver x = Entry.of("p; -p");
        x.prove();
        for (int kind : new int[] {-1, 3, 4, MIN, MAX}) {
            DUE.due("kind " + kind, x.addStep(kind, 0, 0), ARG);
        }
        DUE.due("nothing was added", x.check(), ConnectionProver.CHK_EMPTY);
        for (int i = 0; i < 256; i++) {
            DUE.due("step " + i, x.addStep(i % 3, MIN + i, MAX - i), i);
        }
        DUE.due("the last check step stays", x.getCheckStep(), 0);
        for (int kind = 0; kind < 3; kind++) {
            DUE.due("step 256", x.addStep(kind, 0, 0), ConnectionProver.ERR_FULL);
        }
        DUE.due("a wrong step 256", x.addStep(3, 0, 0), ARG);
        DUE.due("the kept proof stays", x.hasProof(), true);
        DUE.due("the seal stays off", x.isSealed(), false);
        DUE.due("the clauses stay", x.getClauseCount(), 2);
    }

    private static void addStepKeepsItsNumbers() {
        ConnectionProver x = Entry.of("p; -p | -p");
        x.addStep(0, 0, MIN);
        x.addStep(1, 1, 1);
        x.addStep(2, 0, MAX);
        DUE.due("b is unused for START and RED", x.check(), VALID);
        for (int bad : new int[] {-1, 2, 256, 65536, 1 << 31, MAX, MIN}) {
            x = Entry.of("p; -p | -p");
            x.addStep(0, bad, 0);
            DUE.due("START " + bad, x.check(), ConnectionProver.CHK_CLAUSE);
            x.clearProof();
            x.addStep(0, 0, 0);
            x.addStep(1, bad, 0);
            DUE.due("EXT " + bad, x.check(), ConnectionProver.CHK_CLAUSE);
            x.clearProof();
            x.addStep(0, 0, 0);
            x.addStep(1, 1, bad);
            DUE.due("EXT with " + bad, x.check(), ConnectionProver.CHK_LIT);
            x.clearProof();
            x.addStep(0, 0, 0);
            x.addStep(1, 1, 0);
            x.addStep(2, bad, 0);
            DUE.due("RED " + bad, x.check(), ConnectionProver.CHK_PATH);
        }
    }

    private static void bindWrong() {
        ConnectionProver x = Entry.of("p(c0); -p(X0) | -p(X1)");
        x.addStep(0, 1, 0);
        x.addStep(1, 0, 0);
        x.addStep(1, 0, 0);
        x.bind(0, 2, 0, 0);
        x.bind(0, 3, 0, 0);
        for (int bad : new int[] {-1, 256, 257, MIN, MAX}) {
            DUE.due("copy " + bad, x.bind(bad, 2, 0, 0), ARG);
            DUE.due("tcopy " + bad + " of X0", x.bind(0, 2, bad, 2), ARG);
            DUE.due("tcopy " + bad + " of X1", x.bind(0, 3, bad, 3), ARG);
        }
        for (int bad : new int[] {-1, 0, 1, 4, MIN, MAX}) {
            DUE.due("var " + bad, x.bind(0, bad, 0, 1), ARG);
        }
        for (int bad : new int[] {-1, 4, MIN, MAX}) {
            DUE.due("tterm " + bad, x.bind(0, 2, 0, bad), ARG);
            DUE.due("tterm " + bad + " for X1", x.bind(0, 3, 0, bad), ARG);
        }
        DUE.due("nothing was changed", x.check(), VALID);
        for (int any : new int[] {-1, 256, MIN, MAX}) {
            DUE.due("tcopy " + any + " of c1", x.bind(0, 2, any, 1), OK);
            DUE.due("it is bound to c1", x.check(), ARGS);
            DUE.due("tcopy " + any + " of c0", x.bind(0, 2, any, 0), OK);
            DUE.due("it is bound to c0", x.check(), VALID);
        }
        x.addStep(0, 0, 0);
        DUE.due("the last check step", x.getCheckStep(), -1);
        x.check();
        x.bind(0, 2, 0, 0);
        DUE.due("bind leaves the last check step", x.getCheckStep(), 3);
    }

    private static void bindEveryVariable() {
        for (int copy = 0; copy < 256; copy++) {
            for (int var = 2; var < 4; var++) {
                ConnectionProver x = Entry.of("p(c0); -p(X0)");
                x.addStep(0, 1, 0);
                x.addStep(1, 0, 0);
                DUE.due("bind", x.bind(copy, var, 0, 0), OK);
                boolean own = copy == 0 && var == 2;
                DUE.due("bound " + copy + " " + var, x.check(), own ? VALID : ARGS);
                if (!own) {
                    x.bind(0, 2, copy, var);
                    DUE.due("through " + copy + " " + var, x.check(), VALID);
                    x.bind(copy, var, copy, var);
                    DUE.due("unbound " + copy + " " + var, x.check(), ARGS);
                }
            }
        }
    }

    private static void bindReplaces() {
        ConnectionProver x = Entry.of("p(c0); p(c1); -p(X1)");
        x.addStep(0, 2, 0);
        x.addStep(1, 1, 0);
        DUE.due("unbound", x.check(), ARGS);
        x.bind(0, 3, 0, 0);
        DUE.due("bound to c0", x.check(), ARGS);
        x.bind(0, 3, 0, 1);
        DUE.due("bound to c1 instead", x.check(), VALID);
        x.bind(0, 3, 9, 3);
        DUE.due("bound to an unbound variable instead", x.check(), ARGS);
        x.bind(9, 3, 0, 1);
        DUE.due("that is bound to c1 then", x.check(), VALID);
        x.bind(0, 3, 0, 3);
        DUE.due("unbound again", x.check(), ARGS);
        x.bind(0, 3, 0, 2);
        x.bind(0, 2, 0, 1);
        DUE.due("bound to X0 of the same copy", x.check(), VALID);
    }

    private static void bindToVariables() {
        ConnectionProver x = Entry.of("p(X0); -p(X0)");
        x.addStep(0, 0, 0);
        x.addStep(1, 1, 0);
        DUE.due("two unbound variables", x.check(), ARGS);
        x.bind(0, 2, 1, 2);
        DUE.due("one bound to the other", x.check(), VALID);
        DUE.due("a cycle is accepted", x.bind(1, 2, 0, 2), OK);
        DUE.due("and told by check", x.check(), ConnectionProver.CHK_CYCLE);
        x.bind(0, 2, 0, 2);
        DUE.due("the other bound to the one", x.check(), VALID);
        x.bind(0, 2, 200, 3);
        x.bind(1, 2, 200, 3);
        DUE.due("both bound to a third", x.check(), VALID);
        x.bind(1, 2, 200, 2);
        DUE.due("bound to two others", x.check(), ARGS);
    }
}
