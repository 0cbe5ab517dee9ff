import java.util.EnumSet;
import java.util.Set;

/** Promise 2 and the term 'Literals': each sentence with an edge has a test of its own. */
public final class LiteralEdgesTest {
    private static final Due DUE = new Due();
    private static final int OK = ConnectionProver.OK;
    private static final int ARG = ConnectionProver.ERR_ARG;
    private static final int FULL = ConnectionProver.ERR_FULL;
    private static final int ARITY = ConnectionProver.ERR_ARITY;
    private static final int MIN = Integer.MIN_VALUE;
    private static final int MAX = Integer.MAX_VALUE;

    /** Wrong by the conditions 1, 2 and 3; each has arity 1 or 2, which no predicate q has here. */
    private static final int[][] WRONG = {{2, 1, 0, -1}, {-1, 1, 0, -1}, {0, 4, 0, -1}, {0, -1, 0, -1},
            {0, 1, 4, -1}, {0, 1, -2, -1}, {0, 1, 0, 4}, {0, 1, 0, -2}, {0, 1, -1, 0}, {0, 1, -1, 3}};

    public static void main(String[] args) {
        sign();
        predicate();
        argumentCodes();
        secondArgumentAlone();
        clausesFull();
        pendingFull();
        literalsFull();
        arityDiffers();
        wrongBeforeFull();
        wrongBeforeArity();
        fullBeforeArity();
        twoWaysFull();
        appendedAsTheLast();
        arityFixedOnce();
        restUnchanged();
        arityOfALiteral();
        fixedByTheFirstAccepted();
        freedOnlyByClearClauses();
        numbering();
        DUE.finish();
    }

    private static String name(int... l) {
        return "addLiteral(" + l[0] + ", " + l[1] + ", " + l[2] + ", " + l[3] + ")";
    }

    private static void taken(int... l) {
        ConnectionProver x = new ConnectionProver();
        DUE.due(name(l), x.addLiteral(l[0], l[1], l[2], l[3]), OK);
        DUE.due(name(l) + " is pending", x.getClauseLength(0), 1);
        DUE.due(name(l) + " is kept", x.getLiteral(0, 0),
                l[0] * 1000 + l[1] * 100 + (l[2] + 1) * 10 + l[3] + 1);
    }

    private static void refused(State state, int want, int... l) {
        Seen.refused(DUE, state, name(l), x -> x.addLiteral(l[0], l[1], l[2], l[3]), want);
    }

    private static void refusedEverywhere(int... l) {
        for (State state : State.values()) {
            refused(state, ARG, l);
        }
    }

    private static void sign() {
        DUE.sentence("2.1 sign not 0 or 1: ERR_ARG");
        taken(0, 0, -1, -1);
        taken(1, 0, -1, -1);
        for (int bad : new int[] {-1, 2, MIN, MAX, 256, 1 << 31 | 1}) {
            refusedEverywhere(bad, 3, -1, -1);
        }
    }

    private static void predicate() {
        DUE.sentence("2.2 pred not in 0..3: ERR_ARG");
        taken(0, 0, -1, -1);
        taken(0, 3, -1, -1);
        for (int bad : new int[] {-1, 4, MIN, MAX, 256, 259}) {
            refusedEverywhere(0, bad, -1, -1);
        }
    }

    private static void argumentCodes() {
        DUE.sentence("2.3 arg0 or arg1 not in -1..3: ERR_ARG");
        taken(0, 0, -1, -1);
        taken(0, 0, 3, -1);
        taken(0, 0, 3, 3);
        taken(0, 0, 0, 0);
        for (int bad : new int[] {-2, 4, MIN, MAX}) {
            refusedEverywhere(0, 3, bad, -1);
            refusedEverywhere(0, 3, bad, 3);
            refusedEverywhere(0, 3, 3, bad);
            refusedEverywhere(0, 3, -1, bad);
            refusedEverywhere(0, 3, bad, bad);
        }
    }

    private static void secondArgumentAlone() {
        DUE.sentence("2.3 arg0 = T_NONE with arg1 != T_NONE: ERR_ARG");
        taken(0, 0, -1, -1);
        taken(0, 0, 0, -1);
        for (int arg1 = 0; arg1 < 4; arg1++) {
            taken(0, 0, 0, arg1);
            refusedEverywhere(0, 3, -1, arg1);
        }
    }

    private static void clausesFull() {
        DUE.sentence("2.4 MAX_CLAUSES clauses finished: ERR_FULL");
        ConnectionProver x = Entry.of(";;;;;;");
        DUE.due("literal of the eighth clause", x.addLiteral(0, 0, -1, -1), OK);
        DUE.due("second literal of it", x.addLiteral(0, 0, -1, -1), OK);
        DUE.due("third literal of it", x.addLiteral(0, 0, -1, -1), OK);
        x.endClause();
        DUE.due("literal after the eighth", x.addLiteral(0, 0, -1, -1), FULL);
        DUE.due("literal after eight empty ones", Entry.of(";;;;;;;").addLiteral(0, 0, -1, -1), FULL);
        for (State state : Set.of(State.ALL_CLAUSES, State.ALL_WRITTEN, State.ALL_SEALED)) {
            refused(state, FULL, 0, 0, 0, -1);
            refused(state, FULL, 1, 1, -1, -1);
            refused(state, FULL, 1, 3, 2, 3);
        }
    }

    private static void pendingFull() {
        DUE.sentence("2.5 MAX_CLAUSE_LITS literals pending: ERR_FULL");
        ConnectionProver x = new ConnectionProver();
        DUE.due("first", x.addLiteral(0, 0, -1, -1), OK);
        DUE.due("second", x.addLiteral(0, 0, -1, -1), OK);
        DUE.due("third", x.addLiteral(0, 0, -1, -1), OK);
        DUE.due("fourth", x.addLiteral(0, 0, -1, -1), FULL);
        DUE.due("fourth again", x.addLiteral(0, 1, -1, -1), FULL);
        DUE.due("three pending", x.getClauseLength(0), 3);
        x.endClause();
        DUE.due("first of the next", x.addLiteral(0, 0, -1, -1), OK);
        refused(State.ALL_PENDING, FULL, 0, 0, 0, -1);
        refused(State.ALL_PENDING, FULL, 0, 2, -1, -1);
        refused(State.ALL_PENDING, FULL, 0, 3, 0, 0);
    }

    private static void literalsFull() {
        DUE.sentence("2.6 finished plus pending literals = MAX_LITS: ERR_FULL");
        String fifteen = "p|p|p; p|p|p; p|p|p; p|p|p; p|p|p";
        ConnectionProver x = Entry.of(fifteen);
        DUE.due("the sixteenth as the first pending", x.addLiteral(0, 0, -1, -1), OK);
        DUE.due("the seventeenth as the second", x.addLiteral(0, 0, -1, -1), FULL);
        x.endClause();
        DUE.due("the seventeenth as the first", x.addLiteral(0, 0, -1, -1), FULL);
        DUE.due("an empty clause then", x.endClause(), 6);
        DUE.due("the seventeenth after it", x.addLiteral(0, 0, -1, -1), FULL);
        DUE.due("none pending", x.getClauseLength(7), 0);
        x = Entry.of("p|p|p; p|p|p; p|p|p; p|p|p; p|p");
        DUE.due("the fifteenth as the first pending", x.addLiteral(0, 0, -1, -1), OK);
        DUE.due("the sixteenth as the second", x.addLiteral(0, 0, -1, -1), OK);
        DUE.due("the seventeenth as the third", x.addLiteral(0, 0, -1, -1), FULL);
        refused(State.ALL_LITERALS, FULL, 0, 0, 0, -1);
        refused(State.ALL_LITERALS, FULL, 0, 2, -1, -1);
        refused(State.ALL_LITERALS, FULL, 0, 3, 0, 0);
    }

    private static void arityDiffers() {
        DUE.sentence("2.7 pred's arity fixed and different from this literal's arity: ERR_ARITY");
        int[][] args = {{-1, -1}, {0, -1}, {0, 0}};
        for (int fixed = 0; fixed < 3; fixed++) {
            for (int arity = 0; arity < 3; arity++) {
                ConnectionProver x = new ConnectionProver();
                x.addLiteral(0, 2, args[fixed][0], args[fixed][1]);
                DUE.due("arity " + arity + " after a pending " + fixed,
                        x.addLiteral(1, 2, args[arity][0], args[arity][1]), arity == fixed ? OK : ARITY);
                x.endClause();
                DUE.due("arity " + arity + " after a finished " + fixed,
                        x.addLiteral(1, 2, args[arity][0], args[arity][1]), arity == fixed ? OK : ARITY);
            }
        }
        for (State state : Set.of(State.WRITTEN, State.SEALED)) {
            refused(state, ARITY, 0, 0, -1, -1);
            refused(state, ARITY, 0, 0, 0, 0);
            refused(state, ARITY, 1, 1, 2, -1);
            refused(state, ARITY, 1, 1, 2, 3);
            refused(state, ARITY, 0, 2, -1, -1);
            refused(state, ARITY, 0, 2, 1, -1);
            refused(state, ARITY, 1, 3, -1, -1);
            refused(state, ARITY, 1, 3, 1, 1);
        }
        refused(State.TOO_BIG, ARITY, 0, 0, 1, -1);
        refused(State.UNPROVED, ARITY, 0, 0, 1, 1);
        refused(State.ALL_STEPS, ARITY, 0, 1, 1, 1);
    }

    private static void wrongBeforeFull() {
        DUE.sentence("2 considered in order: 1, 2 and 3 before 4, 5 and 6");
        State[] full = {State.ALL_CLAUSES, State.ALL_WRITTEN, State.ALL_SEALED, State.ALL_PENDING,
                State.ALL_LITERALS};
        for (State state : full) {
            DUE.due("right " + state, state.make().addLiteral(0, 1, -1, -1), FULL);
            for (int[] wrong : WRONG) {
                refused(state, ARG, wrong);
            }
        }
    }

    private static void wrongBeforeArity() {
        DUE.sentence("2 considered in order: 1, 2 and 3 before 7");
        for (State state : Set.of(State.WRITTEN, State.SEALED, State.UNPROVED, State.ALL_STEPS)) {
            DUE.due("right but for its arity", state.make().addLiteral(0, 1, 0, -1), ARITY);
            for (int[] wrong : WRONG) {
                refused(state, ARG, wrong);
            }
        }
    }

    private static void fullBeforeArity() {
        DUE.sentence("2 considered in order: 4, 5 and 6 before 7");
        State[] full = {State.ALL_CLAUSES, State.ALL_WRITTEN, State.ALL_SEALED, State.ALL_PENDING,
                State.ALL_LITERALS};
        for (State state : full) {
            refused(state, FULL, 0, 0, -1, -1);
            refused(state, FULL, 0, 0, 0, 0);
            refused(state, FULL, 1, 1, 0, -1);
            refused(state, FULL, 0, 2, 0, -1);
        }
    }

    private static void twoWaysFull() {
        DUE.sentence("2 considered in order: 4 and 6, or 5 and 6, at once");
        ConnectionProver x = Entry.of("p|p|p; p|p|p; p|p|p; p|p|p; p");
        Entry.pend(x, "p | p | p");
        DUE.due("three pending of sixteen", x.addLiteral(0, 0, -1, -1), FULL);
        DUE.due("of another arity", x.addLiteral(0, 0, 0, -1), FULL);
        DUE.due("three stay pending", x.getClauseLength(5), 3);
        x.endClause();
        x.endClause();
        DUE.due("the eighth clause is empty", x.endClause(), 7);
        DUE.due("eight clauses of sixteen", x.addLiteral(0, 0, -1, -1), FULL);
        DUE.due("eight stay", x.getClauseCount(), 8);
        DUE.due("none pending", x.getClauseLength(8), 0);
    }

    private static void appendedAsTheLast() {
        DUE.sentence("2 otherwise the literal is appended as the last pending literal");
        ConnectionProver x = Entry.of("p(c0) | q; ");
        x.addLiteral(1, 3, 3, 2);
        x.addLiteral(0, 2, -1, -1);
        x.addLiteral(2, 2, -1, -1);
        x.addLiteral(0, 2, 0, -1);
        x.addLiteral(1, 0, 1, -1);
        int[] codes = {1343, 200, 1020};
        for (int i = 0; i < 3; i++) {
            DUE.due("literal " + i, x.getLiteral(2, i), codes[i]);
        }
        DUE.due("there are three", x.getClauseLength(2), 3);
    }

    private static void arityFixedOnce() {
        DUE.sentence("2 pred's arity is fixed to this literal's arity if it was not yet fixed");
        int[][] args = {{-1, -1}, {0, -1}, {0, 0}};
        for (int pred = 0; pred < 4; pred++) {
            for (int arity = 0; arity < 3; arity++) {
                ConnectionProver x = new ConnectionProver();
                x.addLiteral(0, pred, args[arity][0], args[arity][1]);
                for (int other = 0; other < 4; other++) {
                    int[] next = args[(arity + 1) % 3];
                    DUE.due("predicate " + other + " after " + pred,
                            x.addLiteral(0, other, next[0], next[1]), other == pred ? ARITY : OK);
                    x.endClause();
                }
            }
        }
    }

    private static void restUnchanged() {
        DUE.sentence("2 finished clauses, the kept proof, the buffer and the last check step do not change");
        Set<Seen.Part> rest =
                EnumSet.complementOf(EnumSet.of(Seen.Part.PENDING, Seen.Part.ARITIES));
        for (State state : Set.of(State.FRESH, State.WRITTEN, State.SEALED, State.UNPROVED, State.TOO_BIG,
                State.ALL_STEPS)) {
            DUE.due(state + ": accepted", state.make().addLiteral(1, 0, 2, state == State.TOO_BIG ? 2 : -1), OK);
            Seen.same(DUE, state, "addLiteral", x -> x.addLiteral(1, 0, 2, -1), rest);
            Seen.same(DUE, state, "addLiteral of c1", x -> x.addLiteral(0, 0, 1, 1), rest);
            Seen.same(DUE, state, "addLiteral of q", x -> x.addLiteral(0, 1, -1, -1), rest);
        }
    }

    private static void arityOfALiteral() {
        DUE.sentence("Literals: its arity is 0, 1 or 2");
        for (int arg0 = -1; arg0 < 4; arg0++) {
            for (int arg1 = -1; arg1 < (arg0 == -1 ? 0 : 4); arg1++) {
                int arity = arg0 == -1 ? 0 : arg1 == -1 ? 1 : 2;
                ConnectionProver x = new ConnectionProver();
                x.addLiteral(0, 0, arg0, arg1);
                String after = " after " + arg0 + ", " + arg1;
                DUE.due("arity 0" + after, x.addLiteral(0, 0, -1, -1), arity == 0 ? OK : ARITY);
                DUE.due("arity 1" + after, x.addLiteral(0, 0, 3, -1), arity == 1 ? OK : ARITY);
                x.endClause();
                DUE.due("arity 2" + after, x.addLiteral(0, 0, 3, 0), arity == 2 ? OK : ARITY);
            }
        }
    }

    private static void fixedByTheFirstAccepted() {
        DUE.sentence("Literals: a predicate's arity is fixed by the first accepted literal using it");
        ConnectionProver x = new ConnectionProver();
        x.addLiteral(2, 0, -1, -1);
        x.addLiteral(0, 0, 0, 4);
        x.addLiteral(0, 0, -1, 0);
        DUE.due("after refused ones of arity 0", x.addLiteral(0, 0, 0, -1), OK);
        DUE.due("arity 2 refused", x.addLiteral(0, 0, 0, 0), ARITY);
        DUE.due("arity 1 again", x.addLiteral(0, 0, 0, -1), OK);
        x.addLiteral(0, 1, -1, -1);
        DUE.due("a fourth literal", x.addLiteral(0, 2, -1, -1), FULL);
        x.endClause();
        DUE.due("it fixed nothing", x.addLiteral(0, 2, 0, 0), OK);
        x = Entry.of("p|p|p; p|p|p; p|p|p; p|p|p; p|p|p; p");
        DUE.due("a seventeenth literal", x.addLiteral(0, 3, 0, 0), FULL);
        x.clearClauses();
        DUE.due("after clearClauses", x.addLiteral(0, 3, -1, -1), OK);
    }

    private static void freedOnlyByClearClauses() {
        DUE.sentence("Literals: and is freed only by clearClauses");
        ConnectionProver x = Entry.of("p(c0); -p(X0)");
        Entry.pend(x, "q(X0,X1)");
        for (int call = 0; call < 9; call++) {
            switch (call) {
                case 0 -> x.prove();
                case 1 -> x.adoptProof();
                case 2 -> x.check();
                case 3 -> x.clearProof();
                case 4 -> x.addStep(0, 0, 0);
                case 5 -> x.bind(0, 2, 0, 0);
                case 6, 7 -> x.endClause();
                default -> x.clearClauses();
            }
            int want = call == 8 ? OK : ARITY;
            DUE.due("p after call " + call, x.addLiteral(0, 0, -1, -1), want);
            DUE.due("q after call " + call, x.addLiteral(0, 1, -1, -1), want);
        }
    }

    private static void numbering() {
        DUE.sentence("Literals: clauses are numbered in order of finishing, their literals in order of adding");
        ConnectionProver x = new ConnectionProver();
        for (int c = 0; c < 8; c++) {
            for (int i = 0; i < 2; i++) {
                x.addLiteral(i, c / 2, c % 2, -1);
            }
            DUE.due("clause", x.endClause(), c);
        }
        for (int c = 0; c < 8; c++) {
            for (int i = 0; i < 2; i++) {
                DUE.due("literal " + c + " " + i, x.getLiteral(c, i), i * 1000 + c / 2 * 100 + (c % 2 + 1) * 10);
            }
        }
    }
}
