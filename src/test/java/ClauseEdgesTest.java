import java.util.EnumSet;
import java.util.Set;
import java.util.function.ToIntFunction;

/** Promises 1 and 3 to 8: each sentence with an edge has a test of its own. */
public final class ClauseEdgesTest {
    private static final Due DUE = new Due();
    private static final int OK = ConnectionProver.OK;
    private static final int FULL = ConnectionProver.ERR_FULL;
    private static final int ARITY = ConnectionProver.ERR_ARITY;
    private static final int NO_PROOF = ConnectionProver.ERR_NO_PROOF;
    private static final int MIN = Integer.MIN_VALUE;
    private static final int MAX = Integer.MAX_VALUE;

    /** The states in which the buffer is not sealed. */
    private static final Set<State> UNSEALED =
            EnumSet.complementOf(EnumSet.of(State.SEALED, State.ALL_SEALED));

    /** The states in which a clause can be finished. */
    private static final Set<State> ROOM = EnumSet.complementOf(
            EnumSet.of(State.ALL_CLAUSES, State.ALL_WRITTEN, State.ALL_SEALED));

    public static void main(String[] args) {
        freshObject();
        freshAnswers();
        endClauseRefused();
        endClauseTakesThePending();
        endClauseAnswersTheNumber();
        endClauseKeepsArities();
        endClauseDiscardsTheProof();
        endClauseEmptiesASealedBuffer();
        endClauseLeavesAnUnsealedBuffer();
        endClauseLeavesTheCheckStep();
        clearRemoves();
        clearFreesArities();
        clearDiscardsTheProof();
        clearEmptiesASealedBuffer();
        clearLeavesAnUnsealedBuffer();
        clearLeavesTheCheckStep();
        clauseCount();
        lengthOfFinished();
        lengthOfPending();
        lengthOfOthers();
        literalCodes();
        literalOfNoClause();
        literalOutOfRange();
        atomsOfNothing();
        atomsOfPending();
        atomsOfUniverse();
        atomsOfPredicates();
        DUE.finish();
    }

    private static void reading(String name, ToIntFunction<ConnectionProver> call) {
        for (State state : State.values()) {
            Seen.same(DUE, state, name, call::applyAsInt, Seen.ALL);
        }
    }

    private static void freshObject() {
        DUE.sentence("1 the constructor gives an object with no clauses .. and last check step -1");
        ConnectionProver x = new ConnectionProver();
        DUE.due("no clause", x.getLiteral(0, 0), -1);
        DUE.due("no pending literal", x.getClauseLength(0), 0);
        DUE.due("no clause 1", x.getClauseLength(1), -1);
        DUE.due("no kept proof", x.adoptProof(), NO_PROOF);
        for (int pred = 0; pred < 4; pred++) {
            DUE.due("arity 0", new ConnectionProver().addLiteral(0, pred, -1, -1), OK);
            DUE.due("arity 1", new ConnectionProver().addLiteral(0, pred, 0, -1), OK);
            DUE.due("arity 2", new ConnectionProver().addLiteral(0, pred, 0, 0), OK);
        }
        Seen.emptyBuffer(DUE, "fresh", ConnectionProver::new);
    }

    private static void freshAnswers() {
        DUE.sentence("1 so getClauseCount() = 0, getGroundAtoms() = 0 ..");
        ConnectionProver x = new ConnectionProver();
        DUE.due("getClauseCount", x.getClauseCount(), 0);
        DUE.due("getGroundAtoms", x.getGroundAtoms(), 0);
        DUE.due("hasProof", x.hasProof(), false);
        DUE.due("isSealed", x.isSealed(), false);
        DUE.due("getCheckStep", x.getCheckStep(), -1);
    }

    private static void endClauseRefused() {
        DUE.sentence("3 if MAX_CLAUSES clauses are finished, endClause() answers ERR_FULL and nothing changes");
        ConnectionProver x = Entry.of("p;p;p;p;p;p;p");
        Entry.pend(x, "p|p|p");
        DUE.due("the eighth", x.endClause(), 7);
        DUE.due("the ninth", x.endClause(), FULL);
        DUE.due("the tenth", x.endClause(), FULL);
        DUE.due("eight stay", x.getClauseCount(), 8);
        DUE.due("the last stays", x.getClauseLength(7), 3);
        for (State state : State.values()) {
            if (!ROOM.contains(state)) {
                Seen.refused(DUE, state, "endClause()", ConnectionProver::endClause, FULL);
            }
        }
    }

    private static void endClauseTakesThePending() {
        DUE.sentence("3 the pending literals (possibly none, giving an empty clause) become clause getClauseCount()");
        String[] pending = {"", "-s(X1)", "s(c0) | -r(X0,c1)", "q | p | -q"};
        int[][] codes = {{}, {1340}, {310, 1232}, {100, 0, 1100}};
        for (int before = 0; before < 5; before++) {
            for (int k = 0; k < pending.length; k++) {
                ConnectionProver x = Entry.of("p|q|q");
                for (int c = 1; c < before; c++) {
                    x.endClause();
                }
                int number = x.getClauseCount();
                Entry.pend(x, pending[k]);
                x.endClause();
                DUE.due("the count", x.getClauseCount(), number + 1);
                DUE.due("the length", x.getClauseLength(number), codes[k].length);
                for (int i = 0; i < codes[k].length; i++) {
                    DUE.due("in their order", x.getLiteral(number, i), codes[k][i]);
                }
                DUE.due("no more of them", x.getLiteral(number, codes[k].length), -1);
                DUE.due("none stay pending", x.getClauseLength(number + 1), 0);
                DUE.due("no pending literal 0", x.getLiteral(number + 1, 0), -1);
                DUE.due("clause 0 stays", x.getLiteral(0, 2), 100);
            }
        }
    }

    private static void endClauseAnswersTheNumber() {
        DUE.sentence("3 the answer is the new clause's number");
        ConnectionProver x = new ConnectionProver();
        for (int round = 0; round < 2; round++) {
            for (int c = 0; c < 8; c++) {
                Entry.pend(x, c % 3 == 0 ? "" : "p | q");
                DUE.due("endClause", x.endClause(), c);
            }
            x.clearClauses();
        }
    }

    private static void endClauseKeepsArities() {
        DUE.sentence("3 arities stay fixed");
        ConnectionProver x = new ConnectionProver();
        Entry.pend(x, "p | q(c0) | r(c0,c0)");
        for (int round = 0; round < 3; round++) {
            x.endClause();
            DUE.due("p", x.addLiteral(0, 0, 0, -1), ARITY);
            DUE.due("q", x.addLiteral(0, 1, -1, -1), ARITY);
            DUE.due("r", x.addLiteral(0, 2, 0, -1), ARITY);
            DUE.due("s", new ConnectionProver().addLiteral(0, 3, 0, 0), OK);
        }
        for (State state : ROOM) {
            if (state != State.ALL_LITERALS) {
                Seen.same(DUE, state, "endClause", ConnectionProver::endClause, EnumSet.of(Seen.Part.ARITIES));
            }
        }
    }

    private static void endClauseDiscardsTheProof() {
        DUE.sentence("3 the kept proof is discarded");
        for (State state : ROOM) {
            ConnectionProver x = state.make();
            x.endClause();
            DUE.due(state + ": hasProof", x.hasProof(), false);
            DUE.due(state + ": adoptProof", x.adoptProof(), NO_PROOF);
        }
        ConnectionProver x = Entry.of("p; -p; p; p; p; p; p");
        x.prove();
        DUE.due("kept before the eighth", x.hasProof(), true);
        DUE.due("the eighth", x.endClause(), 7);
        DUE.due("not kept after it", x.hasProof(), false);
    }

    private static void endClauseEmptiesASealedBuffer() {
        DUE.sentence("3 if the buffer is sealed it is emptied (no steps, every variable unbound) and unsealed");
        Seen.emptyBuffer(DUE, "endClause", () -> {
            ConnectionProver x = State.SEALED.make();
            x.endClause();
            return x;
        });
        Seen.emptyBuffer(DUE, "the eighth endClause", () -> {
            ConnectionProver x = Entry.of("-p(X0) | -p(X1); p(c0); p(c1); ; ; ; ");
            x.prove();
            x.adoptProof();
            x.endClause();
            return x;
        });
    }

    private static void endClauseLeavesAnUnsealedBuffer() {
        DUE.sentence("3 an unsealed buffer stays as it is");
        for (State state : ROOM) {
            if (UNSEALED.contains(state)) {
                Seen.same(DUE, state, "endClause", ConnectionProver::endClause, Seen.BUFFER);
            }
        }
        ConnectionProver x = State.ALL_STEPS.make();
        x.endClause();
        DUE.due("its proof", x.check(), ConnectionProver.VALID);
        DUE.due("no more room", x.addStep(0, 0, 0), FULL);
    }

    private static void endClauseLeavesTheCheckStep() {
        DUE.sentence("3 the last check step does not change");
        for (State state : ROOM) {
            Seen.same(DUE, state, "endClause", ConnectionProver::endClause, EnumSet.of(Seen.Part.CHECK_STEP));
        }
        DUE.due("1 in SEALED", State.SEALED.make().getCheckStep(), 1);
        DUE.due("255 in ALL_STEPS", State.ALL_STEPS.make().getCheckStep(), 255);
    }

    private static void clearRemoves() {
        DUE.sentence("4 clearClauses() removes all clauses and pending literals");
        for (State state : State.values()) {
            ConnectionProver x = state.make();
            x.clearClauses();
            DUE.due(state + ": count", x.getClauseCount(), 0);
            DUE.due(state + ": pending", x.getClauseLength(0), 0);
            DUE.due(state + ": literal", x.getLiteral(0, 0), -1);
            DUE.due(state + ": clause 1", x.getClauseLength(1), -1);
            DUE.due(state + ": ground atoms", x.getGroundAtoms(), 0);
            DUE.due(state + ": prove", x.prove(), ConnectionProver.NOT_PROVED);
            Entry.add(x, "r|r|r; r|r|r; r|r|r; r|r|r; r|r|r; r; ");
            DUE.due(state + ": sixteen literals again", x.addLiteral(0, 2, -1, -1), FULL);
            DUE.due(state + ": an eighth clause again", x.endClause(), 7);
            DUE.due(state + ": not a ninth", x.endClause(), FULL);
        }
        ConnectionProver x = new ConnectionProver();
        Entry.pend(x, "p|p|p");
        x.clearClauses();
        Entry.pend(x, "q|q|q");
        DUE.due("three pending again", x.getLiteral(0, 0), 100);
    }

    private static void clearFreesArities() {
        DUE.sentence("4 and frees all arities");
        for (int pred = 0; pred < 4; pred++) {
            for (int finished = 0; finished < 2; finished++) {
                ConnectionProver x = new ConnectionProver();
                int[][] args = {{-1, -1}, {0, -1}, {0, 0}, {-1, -1}};
                for (int arity = 0; arity < 4; arity++) {
                    DUE.due("predicate " + pred, x.addLiteral(0, pred, args[arity][0], args[arity][1]), OK);
                    if (finished == 1) {
                        x.endClause();
                    }
                    x.clearClauses();
                }
            }
        }
        ConnectionProver x = Entry.of("p | q; r | s");
        x.clearClauses();
        Entry.pend(x, "p(c0) | q(c0) | r(c0)");
        x.endClause();
        DUE.due("the fourth too", x.addLiteral(0, 3, 0, -1), OK);
    }

    private static void clearDiscardsTheProof() {
        DUE.sentence("4 and discards the kept proof");
        for (State state : State.values()) {
            ConnectionProver x = state.make();
            x.clearClauses();
            DUE.due(state + ": hasProof", x.hasProof(), false);
            DUE.due(state + ": adoptProof", x.adoptProof(), NO_PROOF);
        }
        DUE.due("it was kept", State.WRITTEN.make().hasProof(), true);
    }

    private static void clearEmptiesASealedBuffer() {
        DUE.sentence("4 a sealed buffer is emptied and unsealed");
        for (State state : Set.of(State.SEALED, State.ALL_SEALED)) {
            DUE.due("sealed before", state.make().isSealed(), true);
            Seen.emptyBuffer(DUE, state + " cleared", () -> {
                ConnectionProver x = state.make();
                x.clearClauses();
                return x;
            });
        }
    }

    private static void clearLeavesAnUnsealedBuffer() {
        DUE.sentence("4 an unsealed buffer is kept as it is");
        for (State state : UNSEALED) {
            Seen.same(DUE, state, "clearClauses", ConnectionProver::clearClauses, Seen.BUFFER);
        }
        ConnectionProver x = State.ALL_STEPS.make();
        x.clearClauses();
        DUE.due("without clauses", x.check(), ConnectionProver.CHK_CLAUSE);
        Entry.add(x, State.BASE);
        DUE.due("with them again", x.check(), ConnectionProver.VALID);
        DUE.due("no more room", x.addStep(0, 0, 0), FULL);
    }

    private static void clearLeavesTheCheckStep() {
        DUE.sentence("4 the last check step does not change");
        for (State state : State.values()) {
            Seen.same(DUE, state, "clearClauses", ConnectionProver::clearClauses, EnumSet.of(Seen.Part.CHECK_STEP));
        }
    }

    private static void clauseCount() {
        DUE.sentence("5 getClauseCount() answers the number of finished clauses, 0..MAX_CLAUSES; nothing changes");
        ConnectionProver x = new ConnectionProver();
        for (int c = 0; c <= 8; c++) {
            DUE.due("count", x.getClauseCount(), c);
            if (c < 8) {
                x.addLiteral(0, 0, -1, -1);
                DUE.due("with a pending literal", x.getClauseCount(), c);
            }
            x.endClause();
        }
        DUE.due("after the refused ninth", x.getClauseCount(), 8);
        x.clearClauses();
        DUE.due("after clearClauses", x.getClauseCount(), 0);
        reading("getClauseCount", ConnectionProver::getClauseCount);
    }

    private static void lengthOfFinished() {
        DUE.sentence("6 for c in 0..getClauseCount()-1, the number of literals of clause c");
        ConnectionProver x = Entry.of("p|p|p; ; p; p|p; ; p|p|p; p|p|p; p|p|p");
        int[] lengths = {3, 0, 1, 2, 0, 3, 3, 3, 0};
        for (int c = 0; c < lengths.length; c++) {
            DUE.due("length of " + c, x.getClauseLength(c), lengths[c]);
        }
        DUE.due("length of 9", x.getClauseLength(9), -1);
    }

    private static void lengthOfPending() {
        DUE.sentence("6 for c = getClauseCount(), the number of pending literals");
        ConnectionProver x = new ConnectionProver();
        for (int c = 0; c < 5; c++) {
            for (int pending = 0; pending < 4; pending++) {
                DUE.due("pending", x.getClauseLength(c), pending);
                DUE.due("beyond", x.getClauseLength(c + 1), -1);
                x.addLiteral(0, 0, -1, -1);
            }
            x.endClause();
        }
        x = Entry.of(";;;;;;;");
        DUE.due("after eight", x.getClauseLength(8), 0);
        DUE.due("beyond eight", x.getClauseLength(9), -1);
    }

    private static void lengthOfOthers() {
        DUE.sentence("6 for every other c (negative or larger) -1; nothing changes");
        for (State state : State.values()) {
            int count = state.make().getClauseCount();
            for (int c : new int[] {-1, -2, -8, MIN, MIN + 1, count + 1, count + 2, 9, 10, 16, 256, MAX - 1, MAX}) {
                DUE.due(state + ": length of " + c, state.make().getClauseLength(c), -1);
            }
        }
        for (int c : new int[] {-1, 0, 1, 8, 9, MIN, MAX}) {
            reading("getClauseLength", x -> x.getClauseLength(c));
        }
    }

    private static void literalCodes() {
        DUE.sentence("7 encoded as sign*1000 + pred*100 + (arg0+1)*10 + (arg1+1), also of the pending literals");
        for (int finished = 0; finished < 2; finished++) {
            for (int sign = 0; sign < 2; sign++) {
                for (int pred = 0; pred < 4; pred++) {
                    for (int arg0 = -1; arg0 < 4; arg0++) {
                        for (int arg1 = -1; arg1 < (arg0 == -1 ? 0 : 4); arg1++) {
                            ConnectionProver x = new ConnectionProver();
                            x.addLiteral(sign, pred, arg0, arg1);
                            if (finished == 1) {
                                x.endClause();
                            }
                            DUE.due("code", x.getLiteral(0, 0),
                                    sign * 1000 + pred * 100 + (arg0 + 1) * 10 + arg1 + 1);
                        }
                    }
                }
            }
        }
        DUE.due("the smallest", Entry.of("p").getLiteral(0, 0), 0);
        DUE.due("the largest", Entry.of("-s(X1,X1)").getLiteral(0, 0), 1344);
        ConnectionProver x = Entry.of("; ; ; ; ; ; p|p|p; q|-q|q");
        DUE.due("the last of the last clause", x.getLiteral(7, 2), 100);
        x = Entry.of("p|p|p; p|p|p; p|p|p; p|p|p; p|p|p; q(X0,c0)");
        DUE.due("the sixteenth literal", x.getLiteral(5, 0), 131);
    }

    private static void literalOfNoClause() {
        DUE.sentence("7 if c is not in 0..getClauseCount() it answers -1");
        for (State state : State.values()) {
            int count = state.make().getClauseCount();
            for (int c : new int[] {-1, -2, MIN, count + 1, count + 2, 9, 16, MAX - 1, MAX}) {
                for (int i : new int[] {-1, 0, 1, 2, MIN, MAX}) {
                    DUE.due(state + ": literal " + c + " " + i, state.make().getLiteral(c, i), -1);
                }
            }
        }
        for (int c : new int[] {-1, 9, MIN, MAX}) {
            reading("getLiteral", x -> x.getLiteral(c, 0));
        }
    }

    private static void literalOutOfRange() {
        DUE.sentence("7 or i is not in 0..getClauseLength(c)-1, it answers -1; nothing changes");
        for (State state : State.values()) {
            ConnectionProver x = state.make();
            for (int c = 0; c <= x.getClauseCount(); c++) {
                int length = x.getClauseLength(c);
                DUE.due(state + ": the last", x.getLiteral(c, length - 1) >= 0, length > 0);
                for (int i : new int[] {-1, -2, MIN, length, length + 1, 3, 4, 16, MAX - 1, MAX}) {
                    DUE.due(state + ": literal " + c + " " + i, x.getLiteral(c, i), -1);
                }
            }
        }
        for (int i : new int[] {-1, 0, 2, 3, MIN, MAX}) {
            reading("getLiteral", x -> x.getLiteral(0, i));
            reading("getLiteral of pending", x -> x.getLiteral(4, i));
        }
    }

    private static void atoms(String clauses, int want) {
        DUE.due("ground atoms of " + clauses, Entry.of(clauses).getGroundAtoms(), want);
    }

    private static void atomsOfNothing() {
        DUE.sentence("8 getGroundAtoms() answers G: an empty sum for no predicate; nothing changes");
        DUE.due("of no clause", new ConnectionProver().getGroundAtoms(), 0);
        atoms("", 0);
        atoms(";;;;;;;", 0);
        reading("getGroundAtoms", ConnectionProver::getGroundAtoms);
    }

    private static void atomsOfPending() {
        DUE.sentence("8 pending literals do not count");
        ConnectionProver x = new ConnectionProver();
        Entry.pend(x, "p(c0) | q(c1,c0) | r");
        DUE.due("pending alone", x.getGroundAtoms(), 0);
        x.endClause();
        DUE.due("finished", x.getGroundAtoms(), 2 + 4 + 1);
        x = Entry.of("p(X0,X1)");
        Entry.pend(x, "p(c0,c1)");
        DUE.due("pending constants", x.getGroundAtoms(), 1);
        Entry.pend(x, "s");
        DUE.due("a pending predicate", x.getGroundAtoms(), 1);
        x.endClause();
        DUE.due("finished then", x.getGroundAtoms(), 5);
    }

    private static void atomsOfUniverse() {
        DUE.sentence("Meaning: U is the set of constants occurring in finished clauses, or {c0} if there is none");
        atoms("p(X0)", 1);
        atoms("p(X0,X1); q(X1)", 2);
        atoms("p(c0,X0); q(c0)", 2);
        atoms("p(X1,c1); q(X0)", 2);
        atoms("p(c1); q", 2);
        atoms("q | p(c1,X0); r(X1)", 3);
        atoms("p(c0,X0); q", 2);
        atoms("p(c0,X0); q(c1)", 6);
        atoms("p(X0,c1); q(c0)", 6);
        atoms("p(c1,c0)", 4);
        atoms("p(X0); ; q(X0,c0) | q(c1,X1)", 6);
        atoms("p(X0) | p(X0) | p(X0); p(X0); p(c0) | p(X0) | p(c1)", 2);
        ConnectionProver x = Entry.of("p(c0); p(c1)");
        x.clearClauses();
        Entry.add(x, "p(X0)");
        DUE.due("constants of removed clauses", x.getGroundAtoms(), 1);
    }

    private static void atomsOfPredicates() {
        DUE.sentence("Meaning: the sum over such p of |U| to the power of p's arity");
        atoms("p; q; r; s", 4);
        atoms("-p | -p; p", 1);
        atoms("p(c0); q(c1); r; s", 6);
        atoms("p(c0); q(c1); r; -r", 5);
        atoms("p(c0,c1); q", 5);
        atoms("p(c0,c1); q; r", 6);
        atoms("p(c0,c1) | q(c0,c0) | r(X0,X1); s(X1,X1)", 16);
        atoms("p(c0) | q(c1) | r(X0); s(X0)", 8);
        atoms("p(c1,c1) | q(c1,c1) | r(c1,c1); s(c1,c1)", 4);
        atoms("s(c0,c1)", 4);
    }
}
