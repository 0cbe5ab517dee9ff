/** Promises 1 to 8: a fresh object, the entry of clauses, and what is read of them. */
public final class ClauseTest {
    private static final Due DUE = new Due();
    private static final int OK = ConnectionProver.OK;
    private static final int ARG = ConnectionProver.ERR_ARG;
    private static final int FULL = ConnectionProver.ERR_FULL;
    private static final int ARITY = ConnectionProver.ERR_ARITY;
    private static final int MIN = Integer.MIN_VALUE;
    private static final int MAX = Integer.MAX_VALUE;

    public static void main(String[] args) {
        freshObject();
        literalsAccepted();
        literalsWrong();
        literalsTooMany();
        arities();
        addLiteralLeavesTheRest();
        endClause();
        endClauseAndProofs();
        clearClauses();
        clauseLength();
        literals();
        groundAtoms();
        DUE.finish();
    }

    private static void freshObject() {
        ConnectionProver x = new ConnectionProver();
        DUE.due("fresh getClauseCount", x.getClauseCount(), 0);
        DUE.due("fresh getClauseLength", x.getClauseLength(0), 0);
        DUE.due("fresh getGroundAtoms", x.getGroundAtoms(), 0);
        DUE.due("fresh hasProof", x.hasProof(), false);
        DUE.due("fresh isSealed", x.isSealed(), false);
        DUE.due("fresh getCheckStep", x.getCheckStep(), -1);
        DUE.due("fresh adoptProof", x.adoptProof(), ConnectionProver.ERR_NO_PROOF);
        DUE.due("fresh check", x.check(), ConnectionProver.CHK_EMPTY);
        for (int pred = 0; pred < 4; pred++) {
            for (int arity = 0; arity < 3; arity++) {
                x = new ConnectionProver();
                DUE.due("first literal of " + pred + " with arity " + arity,
                        x.addLiteral(0, pred, arity > 0 ? 0 : -1, arity > 1 ? 0 : -1), OK);
            }
        }
        everyVariableUnbound(new ConnectionProver());
    }

    /** Two unbound variables never agree, so every extension but one by the very copy fails. */
    private static void everyVariableUnbound(ConnectionProver x) {
        Entry.add(x, "p(X0,X1) | -p(X0,X1); p(c0,c0)");
        x.addStep(0, 0, 0);
        x.addStep(1, 0, 1);
        DUE.due("X0 of two copies", x.check(), ConnectionProver.CHK_ARGS);
        x.bind(1, 2, 0, 2);
        DUE.due("X1 of two copies", x.check(), ConnectionProver.CHK_ARGS);
        x.bind(1, 3, 0, 3);
        DUE.due("both bound", x.check(), ConnectionProver.CHK_OPEN);
    }

    private static void literalsAccepted() {
        for (int sign = 0; sign < 2; sign++) {
            for (int pred = 0; pred < 4; pred++) {
                for (int arg0 = -1; arg0 < 4; arg0++) {
                    for (int arg1 = -1; arg1 < (arg0 == -1 ? 0 : 4); arg1++) {
                        ConnectionProver x = new ConnectionProver();
                        String name = sign + " " + pred + " " + arg0 + " " + arg1;
                        DUE.due("addLiteral " + name, x.addLiteral(sign, pred, arg0, arg1), OK);
                        DUE.due("pending " + name, x.getClauseLength(0), 1);
                        DUE.due("code of " + name, x.getLiteral(0, 0),
                                sign * 1000 + pred * 100 + (arg0 + 1) * 10 + arg1 + 1);
                    }
                }
            }
        }
    }

    private static void literalsWrong() {
        ConnectionProver x = new ConnectionProver();
        for (int bad : new int[] {-1, 2, 3, MIN, MAX}) {
            DUE.due("sign " + bad, x.addLiteral(bad, 0, -1, -1), ARG);
        }
        for (int bad : new int[] {-1, 4, 5, MIN, MAX}) {
            DUE.due("pred " + bad, x.addLiteral(0, bad, -1, -1), ARG);
        }
        for (int bad : new int[] {-2, 4, 5, MIN, MAX}) {
            DUE.due("arg0 " + bad, x.addLiteral(0, 0, bad, -1), ARG);
            DUE.due("arg0 " + bad + " with arg1", x.addLiteral(0, 0, bad, 0), ARG);
            DUE.due("arg1 " + bad, x.addLiteral(0, 0, 0, bad), ARG);
            DUE.due("arg1 " + bad + " without arg0", x.addLiteral(0, 0, -1, bad), ARG);
        }
        for (int arg1 = 0; arg1 < 4; arg1++) {
            DUE.due("arg1 " + arg1 + " alone", x.addLiteral(0, 0, -1, arg1), ARG);
        }
        DUE.due("pending after wrong literals", x.getClauseLength(0), 0);
        DUE.due("no arity fixed by wrong literals", x.addLiteral(0, 0, 0, 0), OK);
    }

    private static void literalsTooMany() {
        ConnectionProver x = new ConnectionProver();
        for (int clause = 0; clause < 5; clause++) {
            Entry.pend(x, "p | q | r");
            DUE.due("fourth literal", x.addLiteral(0, 0, -1, -1), FULL);
            DUE.due("fourth literal of a new predicate", x.addLiteral(0, 3, -1, -1), FULL);
            DUE.due("fourth literal of another arity", x.addLiteral(0, 0, 0, -1), FULL);
            DUE.due("fourth literal that is wrong", x.addLiteral(2, 0, -1, -1), ARG);
            DUE.due("three stay pending", x.getClauseLength(clause), 3);
            DUE.due("endClause", x.endClause(), clause);
        }
        DUE.due("no arity fixed by refused literals", x.addLiteral(0, 3, 2, 3), OK);
        DUE.due("seventeenth literal", x.addLiteral(0, 0, -1, -1), FULL);
        DUE.due("seventeenth literal of another arity", x.addLiteral(0, 0, 0, -1), FULL);
        DUE.due("seventeenth literal that is wrong", x.addLiteral(0, 4, -1, -1), ARG);
        DUE.due("one stays pending", x.getClauseLength(5), 1);
        x.endClause();
        DUE.due("seventeenth literal, none pending", x.addLiteral(0, 0, -1, -1), FULL);

        x = Entry.of("p;p;p;p;p;p;p;p");
        DUE.due("literal after eight clauses", x.addLiteral(0, 0, -1, -1), FULL);
        DUE.due("wrong literal after eight clauses", x.addLiteral(0, 0, -1, 0), ARG);
        DUE.due("literal of another arity after eight clauses", x.addLiteral(0, 0, 0, -1), FULL);
        DUE.due("none pending", x.getClauseLength(8), 0);
    }

    private static void arities() {
        for (int fixed = 0; fixed < 3; fixed++) {
            ConnectionProver x = new ConnectionProver();
            x.addLiteral(0, 1, fixed > 0 ? 2 : -1, fixed > 1 ? 2 : -1);
            for (int finished = 0; finished < 2; finished++) {
                for (int arity = 0; arity < 3; arity++) {
                    int before = x.getClauseLength(finished);
                    if (arity != fixed) {
                        DUE.due("arity " + arity + " after " + fixed,
                                x.addLiteral(1, 1, arity > 0 ? 0 : -1, arity > 1 ? 0 : -1), ARITY);
                        DUE.due("pending then", x.getClauseLength(finished), before);
                    }
                }
                x.endClause();
            }
            DUE.due("the same arity", x.addLiteral(1, 1, fixed > 0 ? 0 : -1, fixed > 1 ? 1 : -1), OK);
            DUE.due("another predicate", x.addLiteral(1, 2, fixed == 0 ? 0 : -1, -1), OK);
        }
    }

    private static void addLiteralLeavesTheRest() {
        ConnectionProver x = Entry.of("p; -p");
        x.check();
        x.prove();
        x.adoptProof();
        x.addLiteral(0, 1, 1, -1);
        DUE.due("finished clauses stay", x.getClauseCount(), 2);
        DUE.due("the kept proof stays", x.hasProof(), true);
        DUE.due("the buffer stays sealed", x.isSealed(), true);
        DUE.due("the last check step stays", x.getCheckStep(), 0);
        DUE.due("the buffer stays valid", x.check(), ConnectionProver.VALID);
    }

    private static void endClause() {
        ConnectionProver x = new ConnectionProver();
        for (int clause = 0; clause < 8; clause++) {
            if (clause % 2 == 1) {
                Entry.pend(x, "-q(X0,c1) | s");
            }
            DUE.due("endClause", x.endClause(), clause);
            DUE.due("count", x.getClauseCount(), clause + 1);
            DUE.due("length", x.getClauseLength(clause), clause % 2 == 1 ? 2 : 0);
            DUE.due("pending", x.getClauseLength(clause + 1), 0);
        }
        DUE.due("literal 0 stays", x.getLiteral(7, 0), 1132);
        DUE.due("literal 1 stays", x.getLiteral(7, 1), 300);
        x.prove();
        x.adoptProof();
        DUE.due("a ninth endClause", x.endClause(), FULL);
        DUE.due("the count stays", x.getClauseCount(), 8);
        DUE.due("the kept proof stays", x.hasProof(), true);
        DUE.due("the seal stays", x.isSealed(), true);
        DUE.due("the proof stays", x.check(), ConnectionProver.VALID);
    }

    private static void endClauseAndProofs() {
        ConnectionProver x = Entry.of("p(c0); -p(X0)");
        x.check();
        x.prove();
        x.adoptProof();
        x.endClause();
        DUE.due("the kept proof is discarded", x.hasProof(), false);
        DUE.due("adoptProof then", x.adoptProof(), ConnectionProver.ERR_NO_PROOF);
        DUE.due("the seal is off", x.isSealed(), false);
        DUE.due("the last check step stays", x.getCheckStep(), 0);
        DUE.due("a sealed buffer is emptied", x.check(), ConnectionProver.CHK_EMPTY);
        x.addStep(0, 1, 0);
        x.addStep(1, 0, 0);
        DUE.due("its variables are unbound", x.check(), ConnectionProver.CHK_ARGS);
        x.bind(0, 2, 0, 0);
        x.prove();
        x.endClause();
        DUE.due("a proof that was not adopted is discarded", x.hasProof(), false);
        DUE.due("an unsealed buffer stays", x.check(), ConnectionProver.VALID);
    }

    private static void clearClauses() {
        ConnectionProver x = Entry.of("p(c0); -p(X0)");
        x.check();
        x.prove();
        x.adoptProof();
        Entry.pend(x, "q | q");
        x.clearClauses();
        DUE.due("no clauses", x.getClauseCount(), 0);
        DUE.due("no pending literals", x.getClauseLength(0), 0);
        DUE.due("no kept proof", x.hasProof(), false);
        DUE.due("no seal", x.isSealed(), false);
        DUE.due("the last check step stays", x.getCheckStep(), 0);
        DUE.due("a sealed buffer is emptied", x.check(), ConnectionProver.CHK_EMPTY);
        DUE.due("the arity of a finished literal is free", x.addLiteral(0, 0, -1, -1), OK);
        DUE.due("the arity of a pending literal is free", x.addLiteral(0, 1, 0, 0), OK);
        x.clearClauses();
        Entry.add(x, "p(c0); -p(X0)");
        x.addStep(0, 1, 0);
        x.addStep(1, 0, 0);
        DUE.due("its variables are unbound", x.check(), ConnectionProver.CHK_ARGS);
        x.bind(0, 2, 0, 0);
        x.prove();
        x.clearClauses();
        DUE.due("a proof that was not adopted is discarded", x.hasProof(), false);
        DUE.due("steps of no clause", x.check(), ConnectionProver.CHK_CLAUSE);
        Entry.add(x, "p(c0); -p(X0)");
        DUE.due("an unsealed buffer stays", x.check(), ConnectionProver.VALID);
        x.clearClauses();
        for (int round = 0; round < 3; round++) {
            Entry.add(x, "p|p|p;p|p|p;p|p|p;p|p|p;p|p|p;p;;");
            DUE.due("all the room is there again", x.getClauseCount(), 8);
            x.clearClauses();
        }
    }

    private static void clauseLength() {
        ConnectionProver x = Entry.of("p|q|r;;p|q;p");
        Entry.pend(x, "p | q");
        int[] lengths = {3, 0, 2, 1, 2};
        for (int c = 0; c < lengths.length; c++) {
            DUE.due("length of " + c, x.getClauseLength(c), lengths[c]);
        }
        for (int c : new int[] {-1, -2, 5, 6, 8, 9, 16, 17, MIN, MAX}) {
            DUE.due("length of " + c, x.getClauseLength(c), -1);
        }
        DUE.due("count", x.getClauseCount(), 4);
        x = Entry.of(";;;;;;;p|p");
        DUE.due("length of the last", x.getClauseLength(7), 2);
        DUE.due("pending after eight", x.getClauseLength(8), 0);
        DUE.due("beyond", x.getClauseLength(9), -1);
    }

    private static void literals() {
        ConnectionProver x = Entry.of("-p(c0,c1) | q(X1) | -r; s(X0,X1)");
        Entry.pend(x, "-q(c0) | p(X1,c0)");
        int[][] codes = {{1012, 140, 1200}, {334}, {1110, 41}};
        for (int c = 0; c < codes.length; c++) {
            for (int i = 0; i < codes[c].length; i++) {
                DUE.due("literal " + c + " " + i, x.getLiteral(c, i), codes[c][i]);
            }
            for (int i : new int[] {-1, codes[c].length, 3, 4, 16, MIN, MAX}) {
                DUE.due("literal " + c + " " + i, x.getLiteral(c, i), -1);
            }
        }
        for (int c : new int[] {-1, 3, 8, 9, MIN, MAX}) {
            for (int i : new int[] {-1, 0, 1, MIN, MAX}) {
                DUE.due("literal " + c + " " + i, x.getLiteral(c, i), -1);
            }
        }
    }

    private static void groundAtoms() {
        groundAtoms("", 0);
        groundAtoms("p", 1);
        groundAtoms("p(X0)", 1);
        groundAtoms("p(X0,X1)", 1);
        groundAtoms("p(c0)", 1);
        groundAtoms("p(c1)", 1);
        groundAtoms("p(c1,X0)", 1);
        groundAtoms("p(c0,c1)", 4);
        groundAtoms("p(X0,c0); p(c1,X1)", 4);
        groundAtoms("p(c0); -p(c1)", 2);
        groundAtoms("p(c0) | q(c1)", 4);
        groundAtoms("p(c0) | p(c1); q; r", 4);
        groundAtoms("p(c0); q(c1); r", 5);
        groundAtoms("p(X0,c1); s(X0); -r | s(c0)", 7);
        groundAtoms("p(c0,c1); q(X0,X0); r(X0,X1)", 12);
        groundAtoms("p(c0,c1); q(X0,X0); r(X0,X1); s(c0,c0)", 16);
        ConnectionProver x = Entry.of("p(X0)");
        Entry.pend(x, "p(c0) | p(c1) | q");
        DUE.due("pending literals do not count", x.getGroundAtoms(), 1);
        x.endClause();
        DUE.due("finished ones do", x.getGroundAtoms(), 3);
        x.clearClauses();
        DUE.due("none after clearClauses", x.getGroundAtoms(), 0);
    }

    private static void groundAtoms(String clauses, int want) {
        ConnectionProver x = Entry.of(clauses);
        DUE.due("ground atoms of " + clauses, x.getGroundAtoms(), want);
    }
}
