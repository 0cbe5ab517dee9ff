/** Promises 9 and 10, and of 11 and 13 that a kept proof is valid: prove and what it keeps. */
public final class ProveTest {
    private static final Due DUE = new Due();
    private static final int PROVED = ConnectionProver.PROVED;
    private static final int NOT_PROVED = ConnectionProver.NOT_PROVED;
    private static final int TOO_BIG = ConnectionProver.ERR_TOO_BIG;

    public static void main(String[] args) {
        plainSets();
        emptyClauses();
        variables();
        repeatedLiterals();
        longProofs();
        narrowChoices();
        tooBig();
        pendingIsIgnored();
        proofIsKeptAndReplaced();
        leavesTheBuffer();
        for (int seed = 0; seed < 60000; seed++) {
            drawnSet(seed);
        }
        DUE.finish();
    }

    private static void due(String clauses, int want) {
        ConnectionProver x = Entry.of(clauses);
        proveAndAdopt(x, clauses, want);
    }

    private static void proveAndAdopt(ConnectionProver x, String name, int want) {
        DUE.due("prove of " + name, x.prove(), want);
        DUE.due("hasProof of " + name, x.hasProof(), want == PROVED);
        if (want != PROVED) {
            DUE.due("adopt of " + name, x.adoptProof(), ConnectionProver.ERR_NO_PROOF);
            DUE.due("isSealed of " + name, x.isSealed(), false);
            return;
        }
        DUE.due("adopt of " + name, x.adoptProof(), ConnectionProver.OK);
        DUE.due("isSealed of " + name, x.isSealed(), true);
        DUE.due("check of " + name, x.check(), ConnectionProver.VALID);
        DUE.due("step of " + name, x.getCheckStep(), -1);
        DUE.due("hasProof after adopt of " + name, x.hasProof(), true);
    }

    private static void plainSets() {
        due("p", NOT_PROVED);
        due("p; q", NOT_PROVED);
        due("p; p", NOT_PROVED);
        due("p; -p", PROVED);
        due("-p; q; p", PROVED);
        due("p | q; -p; -q", PROVED);
        due("p | q; -p | q; p | -q; -p | -q", PROVED);
        due("p | q; -p | q; p | -q", NOT_PROVED);
        due("p | -p; q | -q", NOT_PROVED);
        due("p | q; -p | r; -q | r; -r | s; -s | -r", PROVED);
        due("p | q; -p | r; -q | r; -r | s; -s | r", NOT_PROVED);
        due("p | q | r; -p; -q; r | s; -r | s; -s", PROVED);
        due("s; p | q; -q | p; -p | r; -r | -p", PROVED);
        DUE.due("no clauses", new ConnectionProver().prove(), NOT_PROVED);
    }

    private static void emptyClauses() {
        due("", PROVED);
        due("p; ", PROVED);
        due(" ; p; q", PROVED);
        due("p; -p; ", PROVED);
        due(";;;;;;;", PROVED);
    }

    private static void variables() {
        due("p(c0); -p(c1)", NOT_PROVED);
        due("p(c0); -p(X0)", PROVED);
        due("p(X0); -p(c1)", PROVED);
        due("p(X0); -p(X1)", PROVED);
        due("p(X0,X1); -p(X1,X0)", PROVED);
        due("p(X0,X0); -p(c0,c1)", NOT_PROVED);
        due("p(X0,X1); -p(c0,c1)", PROVED);
        due("p(X0,X1); -p(c1,c1)", PROVED);
        due("p(c0,c1); -p(X0,X0)", NOT_PROVED);
        due("p(X0,X0); -p(X0,X1) | -p(X1,X0); q(c0); q(c1)", TOO_BIG);
        due("p(c0,c1); -p(X0,X1) | p(X1,X0); -p(c1,c0) | q; -q", PROVED);
        due("p(c0,c1); -p(X0,X1) | p(X1,X0); -p(c0,c0) | q; -q", NOT_PROVED);
        due("p(c0) | p(c1); -p(X0)", PROVED);
        due("p(c0) | p(c1); -p(c0)", NOT_PROVED);
        due("p(X0) | q(X1); -p(c0); -q(c1)", PROVED);
        due("p(X0) | q(X0); -p(c0); -q(c1)", NOT_PROVED);
        due("p(X0) | q(X0); -p(X0); -q(c1)", PROVED);
        due("p(c0) | q(c1) | r; -p(X0); -q(X1); -r", PROVED);
        due("p(X0) | q(X0); -p(X1) | -q(X0); p(X0) | -q(c1); -p(c0) | q(c1) | r; -r", PROVED);
        due("p(X0) | q(X0); -p(X0) | -q(X0); p(X0) | -q(c1); -p(c0) | q(c1) | r; -r", NOT_PROVED);
    }

    /** Instances in which two literals become one. */
    private static void repeatedLiterals() {
        due("p | p | p; -p | -p | -p", PROVED);
        due("p(X0) | p(X1); -p(X0) | -p(X1)", PROVED);
        due("p(X0) | p(X1); -p(X0) | -p(X1); q(c0) | q(c1)", PROVED);
        due("p(X0) | p(c0); -p(X0) | -p(c1); -p(c0) | p(c1)", PROVED);
        due("p(X0) | p(c0); -p(X0) | -p(c1)", NOT_PROVED);
        due("p(X0) | p(c0) | p(X1); -p(X0) | -p(c1)", NOT_PROVED);
        due("p(c0) | p(c1); -p(c0) | -p(c1)", NOT_PROVED);
        due("p(X0,X1) | p(X1,X0); -p(X0,X0) | -p(X1,X1); q; p(c0,c1)", PROVED);
    }

    /** Of many millions of drawn sets, those whose proofs came out longest. */
    private static void longProofs() {
        due("-q | -q | p(X0,X0); -q | q; p(X0,X1) | p(X1,X0) | p(X1,X0); p(X0,X0) | q;"
                + "q | -p(c1,X0); -p(c0,X0) | -p(c1,X0) | -p(X1,X0)", PROVED);
        due("-p(X0,X1) | p(c1,X1); p(X0,c1); p(X1,X0) | p(X1,X1);"
                + "-p(X0,X1) | -p(X0,X1) | -p(X1,X0); p(X1,X0) | p(X1,c0) | p(X1,c1)", PROVED);
        due("p(X1,c0) | p(X0,X0) | p(X0,X1); -p(X1,c0) | -q | -q; -p(X1,X0) | -q;"
                + "q | p(X1,X0) | -p(X0,X1); -p(X0,X0) | -p(X0,c1) | -p(X1,X0)", PROVED);
        due("r | r; r | p; q | -r | -r; p | -q | -r; s | -r | s; -p | -p | -s", PROVED);
    }

    /** Sets in which a partner that is not needed below the path leaves a goal without a partner. */
    private static void narrowChoices() {
        due("p(X0,c1) | p(X1,X0); -p(c0,X0) | -p(c1,c0); -p(X1,c1) | -p(X1,X0) | p(X0,c1);"
                + "p(X0,X1) | -p(X1,X1) | -p(c0,X0); -p(X0,X0) | p(c1,X1) | p(c0,X1)", PROVED);
        due("q | -s; -q | -r; s; p(c0) | p(c1); -p(X1) | r; q | s | -p(X0); s | -s | -s", PROVED);
        due("-r | q(X0) | q(c1); -r | -r; p(c0) | p(c0) | p(X0); q(c1) | -p(X1) | r; -q(X1);"
                + "r | -q(c1) | -p(X1)", PROVED);
        due("p(c1) | p(c1) | p(c1); q(c0) | -q(c0); -p(c0) | -q(X1); q(c1) | p(c1); q(c0) | q(c1);"
                + "-q(X0) | -p(c1) | p(X1)", PROVED);
        due("-p(X0) | -p(c0); p(X0) | -q(c0) | -q(c1); -q(X1) | p(X1); p(X1) | q(c0); p(c1) | -q(X0);"
                + "-q(X1) | p(X0) | -q(X1); q(X0) | -q(X1)", PROVED);
        due("p(X1,X0) | -p(c0,X1); p(X0,X0) | p(X1,c0) | p(c0,X1); p(X0,X1) | -p(c0,c0);"
                + "-p(X0,c1) | -p(c1,c0); p(X0,X0) | -p(X1,X1) | -p(c0,c1)", PROVED);
    }

    private static void tooBig() {
        due("p(c0); -p(X0); q(c1); r", PROVED);
        due("p(c0); q(c1); r; s", TOO_BIG);
        due("p(c0); -p(X0); q(c1); r; s", TOO_BIG);
        due("p(c0,c1); q", NOT_PROVED);
        due("p(c0,c1); q; r", TOO_BIG);
        due("p(c0,c1); q(X0); ", TOO_BIG);
        due("p(X0,X1); q(X0,X1); r(X0,X1); s(X0,X1); -s(X0,X0)", PROVED);
        due("p(c1,X1); q(X0,X1); r(X0,X1); s(X0,X1); -s(c1,c1)", PROVED);
        due("p(c1,X1); q(X0,X1); r(X0,X1); s(X0,X1); -s(c1,c0)", TOO_BIG);
        ConnectionProver x = Entry.of("p(c0,c1); -p(X0,X1); q; r");
        x.addStep(0, 0, 0);
        x.addStep(1, 1, 0);
        x.bind(1, 2, 0, 0);
        x.bind(1, 3, 0, 1);
        x.check();
        DUE.due("a valid proof of too many atoms", x.check(), ConnectionProver.VALID);
        DUE.due("prove then", x.prove(), TOO_BIG);
        DUE.due("no kept proof then", x.hasProof(), false);
        DUE.due("the buffer stays", x.check(), ConnectionProver.VALID);
    }

    private static void pendingIsIgnored() {
        ConnectionProver x = Entry.of("p");
        Entry.pend(x, "-p");
        DUE.due("with -p pending", x.prove(), NOT_PROVED);
        DUE.due("it stays pending", x.getClauseLength(1), 1);
        x.endClause();
        proveAndAdopt(x, "-p finished", PROVED);
        Entry.pend(x, "q(c0,c1) | q(X0,X1) | r");
        proveAndAdopt(x, "others pending", PROVED);
        DUE.due("they stay pending", x.getClauseLength(2), 3);
    }

    private static void proofIsKeptAndReplaced() {
        ConnectionProver x = Entry.of("p; -p");
        DUE.due("before prove", x.hasProof(), false);
        for (int round = 0; round < 3; round++) {
            DUE.due("prove again", x.prove(), PROVED);
            DUE.due("kept", x.hasProof(), true);
        }
        x.check();
        x.clearProof();
        Entry.pend(x, "q");
        DUE.due("kept after other calls", x.hasProof(), true);
        x.endClause();
        DUE.due("not kept after endClause", x.hasProof(), false);
        proveAndAdopt(x, "with q", PROVED);
        x.clearClauses();
        DUE.due("not kept after clearClauses", x.hasProof(), false);
        DUE.due("prove of nothing", x.prove(), NOT_PROVED);
        DUE.due("not kept after NOT_PROVED", x.hasProof(), false);
        Entry.add(x, "q(c1); -q(X1) | q(X0); -q(c1)");
        proveAndAdopt(x, "another set", PROVED);
        Entry.add(x, ";;;;");
        DUE.due("prove before a refused endClause", x.prove(), PROVED);
        DUE.due("a refused endClause", x.endClause(), ConnectionProver.ERR_FULL);
        DUE.due("kept after it", x.hasProof(), true);
    }

    private static void leavesTheBuffer() {
        ConnectionProver x = Entry.of("p(c0); -p(X0); q(c1)");
        x.addStep(0, 0, 0);
        x.addStep(1, 1, 0);
        x.check();
        x.bind(1, 2, 0, 0);
        x.prove();
        DUE.due("the last check step stays", x.getCheckStep(), 1);
        DUE.due("unsealed stays", x.isSealed(), false);
        DUE.due("steps and bindings stay", x.check(), ConnectionProver.VALID);
        DUE.due("the next step", x.addStep(0, 0, 0), 2);
        x.adoptProof();
        x.prove();
        DUE.due("sealed stays", x.isSealed(), true);
        DUE.due("clauses stay", x.getClauseCount(), 3);
    }

    /** Sets drawn so that many have five ground atoms and are just unsatisfiable. */
    private static void drawnSet(int seed) {
        Numbers draw = new Numbers(seed);
        ConnectionProver x = new ConnectionProver();
        Model model = new Model();
        int[][] shapes = {{0, 0, 0, 0}, {1, 1, 0, 0}, {2, 0, -1, -1}, {1, 0, 0, 0}, {1, 1, -1, -1},
                {2, -1, -1, -1}, {2, 2, 2, 2}, {2, 1, 1, 0}};
        int[] shape = shapes[draw.below(shapes.length)];
        int constants = draw.oneIn(8) ? 1 : 2;
        int most = draw.between(2, 3);
        while (model.clauses.size() < 8) {
            int length = Math.max(1, draw.between(most - 1, most));
            for (int i = 0; i < length; i++) {
                int pred = draw.below(4);
                int arity = shape[pred];
                if (arity >= 0) {
                    int sign = draw.below(2);
                    int arg0 = arity > 0 ? term(draw, constants) : -1;
                    int arg1 = arity > 1 ? term(draw, constants) : -1;
                    DUE.due("addLiteral", x.addLiteral(sign, pred, arg0, arg1),
                            model.addLiteral(sign, pred, arg0, arg1));
                }
            }
            if (!model.pending.isEmpty()) {
                DUE.due("endClause", x.endClause(), model.endClause());
            } else if (model.clauses.stream().mapToInt(java.util.List::size).sum() == 16) {
                break;
            }
        }
        DUE.due("ground atoms of set " + seed, x.getGroundAtoms(), model.getGroundAtoms());
        proveAndAdopt(x, "set " + seed, model.prove());
    }

    private static int term(Numbers draw, int constants) {
        int term = draw.below(2 + constants);
        return term < constants ? term : 2 + term - constants;
    }
}
