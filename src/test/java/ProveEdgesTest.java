import java.util.EnumSet;
import java.util.Set;

/** Promises 9 and 10 and the term 'Meaning': each sentence with an edge has a test of its own. */
public final class ProveEdgesTest {
    private static final Due DUE = new Due();
    private static final int OK = ConnectionProver.OK;
    private static final int PROVED = ConnectionProver.PROVED;
    private static final int NOT_PROVED = ConnectionProver.NOT_PROVED;
    private static final int TOO_BIG = ConnectionProver.ERR_TOO_BIG;
    private static final int NO_PROOF = ConnectionProver.ERR_NO_PROOF;
    private static final int VALID = ConnectionProver.VALID;

    public static void main(String[] args) {
        universe();
        everyValue();
        emptyClause();
        noClauses();
        everyAtom();
        pendingIgnored();
        tooBig();
        tooBigChangesNothing();
        provedReplaces();
        proofIsValid();
        notProvedDiscards();
        restUnchanged();
        proveSinceTheLastChange();
        refusedEndClause();
        lastProve();
        adoptThenCheck();
        DUE.finish();
    }

    private static void due(String clauses, int want) {
        due(Entry.of(clauses), clauses, want);
    }

    private static void due(ConnectionProver x, String name, int want) {
        DUE.due("prove of " + name, x.prove(), want);
        DUE.due("hasProof of " + name, x.hasProof(), want == PROVED);
        DUE.due("adoptProof of " + name, x.adoptProof(), want == PROVED ? OK : NO_PROOF);
        if (want == PROVED) {
            DUE.due("check of " + name, x.check(), VALID);
            DUE.due("getCheckStep of " + name, x.getCheckStep(), -1);
        }
    }

    private static void universe() {
        DUE.sentence("Meaning: U is the set of constants occurring in finished clauses, or {c0} if there is none");
        due("p(X0); -p(X1)", PROVED);
        due("p(X0,X1); -p(X1,X1)", PROVED);
        due("p(X0) | q(X1); -p(X1) | -q(X1)", NOT_PROVED);
        due("p(X0) | p(X1); -p(X0) | -p(X1)", PROVED);
        due("p(c1); -p(X0)", PROVED);
        due("p(X0); -p(c1)", PROVED);
        due("p(X0,c1); -p(c1,X0)", PROVED);
        due("p(X0,c0); -p(c0,X0)", PROVED);
        due("p(X0,c1); -p(c0,X0)", PROVED);
        due("p(c0,c1); -p(c1,c0)", NOT_PROVED);
        due("p(c0); -p(c1)", NOT_PROVED);
        due("p(c1); -p(c1)", PROVED);
    }

    private static void everyValue() {
        DUE.sentence("Meaning: for each way of giving X0 and X1 values in U, some literal holds");
        String[] terms = {"c0,c0", "c0,c1", "c1,c0", "c1,c1"};
        for (String term : terms) {
            due("p(X0,X1); -p(" + term + "); q | p(c0,c1)", PROVED);
            due("-p(X1,X0); p(" + term + "); q | p(c0,c1)", PROVED);
            due("p(X0,X0); -p(" + term + "); q | p(c0,c1)", term.charAt(1) == term.charAt(4) ? PROVED : NOT_PROVED);
            due("p(X0,c1); -p(" + term + "); q | p(c0,c1)", term.endsWith("c1") ? PROVED : NOT_PROVED);
            due("p(c0,X1); -p(" + term + "); q | p(c0,c1)", term.startsWith("c0") ? PROVED : NOT_PROVED);
        }
        due("p(X0) | q(X1); -p(c0); -q(c1)", PROVED);
        due("p(X0) | q(X0); -p(c0); -q(c1)", NOT_PROVED);
        due("p(X0) | q(X1); -p(c0) | -q(c1)", NOT_PROVED);
        // The last literal of the last clause, in its last instance, and the first of the first.
        String filler = "; p(c0,c1); p(c0,c0); p(c1,c0) | q; q | -q; p(c0,c0); ";
        due("-p(c1,c1)" + filler + "-q; q | q | p(X0,X1)", PROVED);
        due("-p(c1,c1)" + filler + "-q; q | q | p(X0,c0)", NOT_PROVED);
        due("p(X0,X1) | q | q; -q" + filler + "-p(c0,c0)", PROVED);
    }

    private static void emptyClause() {
        DUE.sentence("Meaning: an empty clause never holds");
        due("", PROVED);
        due("p; ", PROVED);
        due(" ; p", PROVED);
        due(";;;;;;;", PROVED);
        due("p;p;p;p;p;p;p; ", PROVED);
        due("p(c0) | -p(c1); ; q(X0)", PROVED);
    }

    private static void noClauses() {
        DUE.sentence("Meaning: no clauses at all is satisfiable");
        due(new ConnectionProver(), "a fresh object", NOT_PROVED);
        ConnectionProver x = new ConnectionProver();
        Entry.pend(x, "p");
        due(x, "pending literals only", NOT_PROVED);
        x = Entry.of("");
        x.clearClauses();
        due(x, "a removed empty clause", NOT_PROVED);
        x = State.SEALED.make();
        x.clearClauses();
        due(x, "removed clauses", NOT_PROVED);
    }

    /** Each of five atoms follows from the one before, so that none may be missed. */
    private static void everyAtom() {
        DUE.sentence("9 PROVED exactly when the finished clauses are unsatisfiable");
        String[] narrow = {"p(c0)", "p(c1)", "q(c0)", "q(c1)", "r"};
        String[] wide = {"s(c0,c0)", "s(c0,c1)", "s(c1,c0)", "s(c1,c1)", "p"};
        for (String[] atoms : new String[][] {narrow, wide}) {
            for (int left = 0; left <= 6; left++) {
                for (int first = 0; first < 2; first++) {
                    StringBuilder clauses = new StringBuilder(atoms[0] + "|-" + atoms[0]);
                    for (int k = 0; k <= 5; k++) {
                        int link = first == 0 ? k : 5 - k;
                        if (link != left) {
                            clauses.append("; ").append(link > 0 ? "-" + atoms[link - 1] : "");
                            clauses.append(link > 0 && link < 5 ? "|" : "").append(link < 5 ? atoms[link] : "");
                        }
                    }
                    due(clauses.toString(), left == 6 ? PROVED : NOT_PROVED);
                }
            }
        }
    }

    private static void pendingIgnored() {
        DUE.sentence("9 prove() decides the finished clauses; pending literals are ignored");
        ConnectionProver x = Entry.of("p(c0)");
        Entry.pend(x, "-p(X0)");
        due(x, "a contradiction with pending", NOT_PROVED);
        x.endClause();
        due(x, "the same finished", PROVED);
        x = Entry.of("p(c0,X0); q(X0,X1); -q(c0,c0)");
        Entry.pend(x, "p(c1,c1) | r | s");
        due(x, "too many atoms with pending", PROVED);
        x.endClause();
        due(x, "too many atoms finished", TOO_BIG);
        x = Entry.of("p");
        due(x, "no pending literal is no empty clause", NOT_PROVED);
    }

    private static void tooBig() {
        DUE.sentence("9 if G > MAX_GROUND it answers ERR_TOO_BIG");
        due("p(c0,c1); q", NOT_PROVED);
        due("p(c0,c1); q; -q", PROVED);
        due("p(c0,c1); q; r", TOO_BIG);
        due("p(c0,c1); q; -q; r", TOO_BIG);
        due("p(c0,c1); q(X0)", TOO_BIG);
        due("p(c0); q(c1); r", NOT_PROVED);
        due("p(c0); q(c1); r; -p(X0)", PROVED);
        due("p(c0); q(c1); r; s", TOO_BIG);
        due("p(c0); q(c1); r; s; ", TOO_BIG);
        due("p(c0); q(c1); r(X0)", TOO_BIG);
        due("p(c0,c1); q(X0,X1); r(X0,X1); s(X0,X1)", TOO_BIG);
        due("p(X0,X1); q(X0,X1); r(X0,X1); s(X0,X1)", NOT_PROVED);
        due("p(c1,X1); q(X0,X1); r(X0,X1); s(X0,X1); -p(X0,c1)", PROVED);
    }

    private static void tooBigChangesNothing() {
        DUE.sentence("9 and nothing changes");
        Seen.refused(DUE, State.TOO_BIG, "prove()", ConnectionProver::prove, TOO_BIG);
        ConnectionProver x = State.TOO_BIG.make();
        x.prove();
        DUE.due("the buffer's proof", x.check(), VALID);
        DUE.due("no kept proof", x.adoptProof(), NO_PROOF);
    }

    private static void provedReplaces() {
        DUE.sentence("9 it answers PROVED and the object keeps a proof, replacing any kept one");
        ConnectionProver x = Entry.of("p; -p");
        for (int round = 0; round < 3; round++) {
            due(x, "round " + round, PROVED);
        }
        x.clearClauses();
        Entry.add(x, "q(c1); -q(X0) | r; -r | p(X0); -p(c1)");
        due(x, "another set", PROVED);
        x.clearClauses();
        Entry.add(x, "p(c0); -p(X1)");
        due(x, "a smaller set", PROVED);
        x.endClause();
        due(x, "with an empty clause", PROVED);
    }

    private static void proofIsValid() {
        DUE.sentence("9 that proof .. placed in the buffer it makes check() answer VALID");
        for (State state : State.values()) {
            ConnectionProver x = state.make();
            int answer = x.prove();
            if (answer == PROVED) {
                DUE.due(state + ": adoptProof", x.adoptProof(), OK);
                DUE.due(state + ": check", x.check(), VALID);
                DUE.due(state + ": getCheckStep", x.getCheckStep(), -1);
            }
        }
        due("p|p|p; -p|q|q; -p|-q|r; -p|-q|-r; p|q|r; p", PROVED);
        due("p|q|r; -p|q|r; p|-q|r; p|q|-r; -p|-q; -r", PROVED);
        due("p(X0) | p(X1) | q(X0); -p(X0) | -p(X1); -q(X0) | r; -q(c0) | -r; -q(c1) | -r", PROVED);
        due("p(X0,X1) | p(X1,X0) | q; -p(X0,X0) | q; -p(c0,c1) | -p(X0,X1) | q; -q", PROVED);
    }

    private static void notProvedDiscards() {
        DUE.sentence("9 else it answers NOT_PROVED and discards the kept proof");
        ConnectionProver x = Entry.of("p; -p");
        x.prove();
        x.clearClauses();
        Entry.add(x, "p; -q");
        for (int round = 0; round < 2; round++) {
            DUE.due("prove", x.prove(), NOT_PROVED);
            DUE.due("hasProof", x.hasProof(), false);
            DUE.due("adoptProof", x.adoptProof(), NO_PROOF);
        }
        DUE.due("UNPROVED", State.UNPROVED.make().prove(), NOT_PROVED);
        DUE.due("ALL_CLAUSES", State.ALL_CLAUSES.make().prove(), NOT_PROVED);
    }

    private static void restUnchanged() {
        DUE.sentence("9 pending literals, the clauses, the buffer and the last check step never change here");
        Set<Seen.Part> rest = EnumSet.complementOf(EnumSet.of(Seen.Part.KEPT));
        for (State state : State.values()) {
            Seen.same(DUE, state, "prove", ConnectionProver::prove, rest);
        }
        ConnectionProver x = Entry.of(State.BASE);
        x.addStep(0, 0, 0);
        x.addStep(1, 1, 0);
        x.addStep(1, 3, 0);
        x.bind(0, 2, 0, 0);
        x.prove();
        DUE.due("the last check step before any check", x.getCheckStep(), -1);
        DUE.due("the buffer's own proof", x.check(), VALID);
    }

    private static void proveSinceTheLastChange() {
        DUE.sentence("10 hasProof() is true exactly when there has been a prove() since the last accepted "
                + "endClause or clearClauses");
        ConnectionProver x = new ConnectionProver();
        DUE.due("fresh", x.hasProof(), false);
        Entry.add(x, "p; -p");
        DUE.due("before prove", x.hasProof(), false);
        x.prove();
        DUE.due("after prove", x.hasProof(), true);
        x.addLiteral(0, 1, -1, -1);
        DUE.due("after addLiteral", x.hasProof(), true);
        x.addLiteral(0, 9, -1, -1);
        DUE.due("after a refused addLiteral", x.hasProof(), true);
        x.addStep(0, 0, 0);
        x.bind(0, 2, 0, 0);
        x.check();
        DUE.due("after writing in the buffer", x.hasProof(), true);
        x.adoptProof();
        DUE.due("after adoptProof", x.hasProof(), true);
        x.clearProof();
        DUE.due("after clearProof", x.hasProof(), true);
        x.endClause();
        DUE.due("after endClause", x.hasProof(), false);
        x.prove();
        DUE.due("after another prove", x.hasProof(), true);
        x.clearClauses();
        DUE.due("after clearClauses", x.hasProof(), false);
        for (State state : State.values()) {
            Seen.same(DUE, state, "hasProof", ConnectionProver::hasProof, Seen.ALL);
        }
    }

    private static void refusedEndClause() {
        DUE.sentence("10 accepted endClause (one that did not answer ERR_FULL)");
        for (State state : Set.of(State.ALL_WRITTEN, State.ALL_SEALED)) {
            ConnectionProver x = state.make();
            DUE.due("a refused endClause", x.endClause(), ConnectionProver.ERR_FULL);
            DUE.due("still kept", x.hasProof(), true);
            DUE.due("adoptProof", x.adoptProof(), OK);
            DUE.due("check", x.check(), VALID);
        }
        ConnectionProver x = Entry.of("p; -p; ; ; ; ; ");
        x.prove();
        DUE.due("the eighth endClause", x.endClause(), 7);
        DUE.due("not kept then", x.hasProof(), false);
    }

    private static void lastProve() {
        DUE.sentence("10 and the last such prove() answered PROVED; otherwise it is false");
        ConnectionProver x = Entry.of("p");
        x.prove();
        DUE.due("after NOT_PROVED", x.hasProof(), false);
        DUE.due("after ERR_TOO_BIG", State.TOO_BIG.make().hasProof(), false);
        x = State.TOO_BIG.make();
        x.check();
        x.prove();
        DUE.due("after VALID and ERR_TOO_BIG", x.hasProof(), false);
        x = Entry.of("p; -p");
        x.prove();
        x.prove();
        DUE.due("after PROVED twice", x.hasProof(), true);
    }

    private static void adoptThenCheck() {
        DUE.sentence("10 whenever it is true, adoptProof() followed by check() answers OK and then VALID");
        for (State state : State.values()) {
            for (int before = 0; before < 5; before++) {
                ConnectionProver x = state.make();
                switch (before) {
                    case 0 -> { }
                    case 1 -> x.clearProof();
                    case 2 -> x.addLiteral(0, 1, -1, -1);
                    case 3 -> x.check();
                    default -> x.adoptProof();
                }
                if (x.hasProof()) {
                    DUE.due(state + ": adoptProof", x.adoptProof(), OK);
                    DUE.due(state + ": check", x.check(), VALID);
                    DUE.due(state + ": still kept", x.hasProof(), true);
                }
            }
        }
        DUE.due("kept in WRITTEN", State.WRITTEN.make().hasProof(), true);
        DUE.due("kept in ALL_STEPS", State.ALL_STEPS.make().hasProof(), true);
    }
}
