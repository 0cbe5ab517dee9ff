import java.util.EnumSet;
import java.util.Set;
import java.util.function.Consumer;

/** Promises 11 to 15: each sentence with an edge has a test of its own. */
public final class BufferEdgesTest {
    private static final Due DUE = new Due();
    private static final int OK = ConnectionProver.OK;
    private static final int ARG = ConnectionProver.ERR_ARG;
    private static final int FULL = ConnectionProver.ERR_FULL;
    private static final int SEALED = ConnectionProver.ERR_SEALED;
    private static final int NO_PROOF = ConnectionProver.ERR_NO_PROOF;
    private static final int VALID = ConnectionProver.VALID;
    private static final int ARGS = ConnectionProver.CHK_ARGS;
    private static final int CYCLE = ConnectionProver.CHK_CYCLE;
    private static final int MIN = Integer.MIN_VALUE;
    private static final int MAX = Integer.MAX_VALUE;

    private static final Set<State> SEALS = EnumSet.of(State.SEALED, State.ALL_SEALED);
    private static final Set<State> UNSEALED = EnumSet.complementOf(EnumSet.copyOf(SEALS));

    public static void main(String[] args) {
        adoptRefused();
        adoptReplaces();
        adoptSeals();
        adoptLeavesTheRest();
        clearEmpties();
        clearLeavesTheRest();
        isSealed();
        sealedIsValid();
        sealedUntil();
        stepSealed();
        stepKind();
        stepsFull();
        kindBeforeFull();
        stepIndex();
        stepNumbers();
        stepUnusedNumber();
        stepLeavesTheRest();
        bindSealed();
        bindCopy();
        bindVariable();
        bindTerm();
        bindTermCopy();
        bindWrongTwice();
        bindToConstant();
        bindToItself();
        bindToVariable();
        bindReplaces();
        bindCycles();
        bindLeavesOthers();
        bindLeavesTheRest();
        DUE.finish();
    }

    private static void bindAll(ConnectionProver x, int constant) {
        for (int k = 0; k < 512; k++) {
            x.bind(k / 2, 2 + k % 2, 0, constant);
        }
    }

    private static void bindAllInACycle(ConnectionProver x) {
        for (int k = 0; k < 512; k++) {
            int next = (k + 1) % 512;
            x.bind(k / 2, 2 + k % 2, next / 2, 2 + next % 2);
        }
    }

    /** An object whose buffer asks whether (0, X0) resolves to this constant. */
    private static ConnectionProver asking(int constant) {
        ConnectionProver x = Entry.of("-p(X0); p(c" + constant + ")");
        x.addStep(0, 0, 0);
        x.addStep(1, 1, 0);
        return x;
    }

    // ---- 11 ----

    private static void adoptRefused() {
        DUE.sentence("11 with no kept proof, adoptProof() answers ERR_NO_PROOF and nothing changes");
        for (State state : EnumSet.of(State.FRESH, State.UNPROVED, State.TOO_BIG, State.ALL_CLAUSES)) {
            Seen.refused(DUE, state, "adoptProof()", ConnectionProver::adoptProof, NO_PROOF);
        }
        ConnectionProver x = State.WRITTEN.make();
        x.endClause();
        DUE.due("after endClause", x.adoptProof(), NO_PROOF);
        DUE.due("unsealed", x.isSealed(), false);
        DUE.due("the buffer's own proof stays", x.check(), VALID);
        x = State.SEALED.make();
        x.endClause();
        DUE.due("after endClause of a sealed one", x.adoptProof(), NO_PROOF);
        DUE.due("unsealed", x.isSealed(), false);
        DUE.due("the buffer stays empty", x.check(), ConnectionProver.CHK_EMPTY);
    }

    private static void adoptReplaces() {
        DUE.sentence("11 the buffer becomes the kept proof: its steps, and its bindings");
        for (String clauses : new String[] {"", "p; -p", "p(c0); -p(X0)", "p(c1); -p(X1)", "p(X0); -p(X1)",
                "p(c0,c1); -p(X0,X1)", "p(c1,c0); -p(X0,X1)", "p(c1); -p(X0) | p(c0); -p(X0) | -p(X1)"}) {
            for (int filling = 0; filling < 5; filling++) {
                ConnectionProver x = Entry.of(clauses);
                x.prove();
                for (int i = 0; i < 256 && filling > 0; i++) {
                    x.addStep((i + filling) % 3, i, i);
                }
                switch (filling) {
                    case 0, 1 -> { }
                    case 2 -> bindAll(x, 0);
                    case 3 -> bindAll(x, 1);
                    default -> bindAllInACycle(x);
                }
                DUE.due("adoptProof of " + clauses, x.adoptProof(), OK);
                DUE.due("check of " + clauses, x.check(), VALID);
                DUE.due("getCheckStep of " + clauses, x.getCheckStep(), -1);
            }
        }
    }

    private static void adoptSeals() {
        DUE.sentence("11 the buffer is sealed, whether or not it was before, and the answer is OK");
        for (State state : State.values()) {
            ConnectionProver x = state.make();
            if (x.hasProof()) {
                for (int round = 0; round < 3; round++) {
                    DUE.due(state + ": adoptProof", x.adoptProof(), OK);
                    DUE.due(state + ": isSealed", x.isSealed(), true);
                    DUE.due(state + ": addStep", x.addStep(0, 0, 0), SEALED);
                    DUE.due(state + ": bind", x.bind(0, 2, 0, 0), SEALED);
                    DUE.due(state + ": check", x.check(), VALID);
                }
            }
        }
    }

    private static void adoptLeavesTheRest() {
        DUE.sentence("11 the kept proof stays kept; clauses, pending literals and the last check step do not change");
        Set<Seen.Part> rest = EnumSet.complementOf(EnumSet.copyOf(Seen.BUFFER));
        for (State state : State.values()) {
            Seen.same(DUE, state, "adoptProof", ConnectionProver::adoptProof, rest);
        }
        ConnectionProver x = Entry.of("p; -p");
        x.prove();
        x.adoptProof();
        DUE.due("the last check step before any check", x.getCheckStep(), -1);
        DUE.due("the last check step of a failure", State.SEALED.make().getCheckStep(), 1);
    }

    // ---- 12 ----

    private static void clearEmpties() {
        DUE.sentence("12 clearProof() empties the buffer in every state, sealed or not");
        for (State state : State.values()) {
            Seen.emptyBuffer(DUE, state + " clearProof", () -> {
                ConnectionProver x = state.make();
                x.clearProof();
                return x;
            });
        }
        Seen.emptyBuffer(DUE, "all variables bound, clearProof", () -> {
            ConnectionProver x = State.ALL_STEPS.make();
            bindAllInACycle(x);
            x.clearProof();
            return x;
        });
    }

    private static void clearLeavesTheRest() {
        DUE.sentence("12 clauses, pending literals, arities, the kept proof and the last check step do not change");
        Set<Seen.Part> rest = EnumSet.complementOf(EnumSet.copyOf(Seen.BUFFER));
        for (State state : State.values()) {
            Seen.same(DUE, state, "clearProof", ConnectionProver::clearProof, rest);
        }
    }

    // ---- 13 ----

    private static void isSealed() {
        DUE.sentence("13 isSealed() is true when the buffer is sealed; nothing changes");
        ConnectionProver x = Entry.of("p(c0); -p(X0)");
        DUE.due("before prove", x.isSealed(), false);
        x.prove();
        DUE.due("after prove", x.isSealed(), false);
        x.adoptProof();
        DUE.due("after adoptProof", x.isSealed(), true);
        x.clearProof();
        DUE.due("after clearProof", x.isSealed(), false);
        x.adoptProof();
        x.endClause();
        DUE.due("after endClause", x.isSealed(), false);
        x.adoptProof();
        DUE.due("after a refused adoptProof", x.isSealed(), false);
        x.prove();
        x.adoptProof();
        x.clearClauses();
        DUE.due("after clearClauses", x.isSealed(), false);
        for (State state : State.values()) {
            DUE.due(state + ": isSealed", state.make().isSealed(), SEALS.contains(state));
            Seen.same(DUE, state, "isSealed", ConnectionProver::isSealed, Seen.ALL);
        }
    }

    private static void sealedIsValid() {
        DUE.sentence("13 whenever it is true, check() answers VALID and getCheckStep() then answers -1");
        for (State state : SEALS) {
            ConnectionProver x = state.make();
            for (int call = 0; call < 11; call++) {
                switch (call) {
                    case 0 -> x.addLiteral(0, 1, -1, -1);
                    case 1 -> x.addLiteral(0, 1, 0, 0);
                    case 2 -> x.prove();
                    case 3 -> x.adoptProof();
                    case 4 -> x.addStep(2, -1, 0);
                    case 5 -> x.addStep(9, 0, 0);
                    case 6 -> x.bind(0, 2, 0, 1);
                    case 7 -> x.bind(1, 2, 1, 3);
                    case 8 -> x.bind(-1, 2, 0, 0);
                    case 9 -> x.check();
                    default -> DUE.due("endClause", x.endClause(), state == State.SEALED ? 4 : FULL);
                }
                if (x.isSealed()) {
                    DUE.due(state + ": check after call " + call, x.check(), VALID);
                    DUE.due(state + ": getCheckStep", x.getCheckStep(), -1);
                }
            }
            DUE.due(state + ": sealed at the end", x.isSealed(), state == State.ALL_SEALED);
        }
    }

    private static void sealedUntil() {
        DUE.sentence("What it is: addStep and bind are refused until clearProof, an accepted endClause or "
                + "clearClauses empties and unseals the buffer");
        for (State state : SEALS) {
            for (int call = 0; call < 8; call++) {
                ConnectionProver x = state.make();
                boolean opened = call < 2;
                switch (call) {
                    case 0 -> x.clearProof();
                    case 1 -> x.clearClauses();
                    case 2 -> opened = x.endClause() >= 0;
                    case 3 -> x.addLiteral(0, 1, -1, -1);
                    case 4 -> x.prove();
                    case 5 -> x.check();
                    case 6 -> x.adoptProof();
                    default -> x.addStep(0, 0, 0);
                }
                DUE.due(state + ": isSealed after call " + call, x.isSealed(), !opened);
                DUE.due(state + ": addStep after call " + call, x.addStep(0, 0, 0), opened ? 0 : SEALED);
                DUE.due(state + ": bind after call " + call, x.bind(0, 2, 0, 0), opened ? OK : SEALED);
            }
        }
    }

    // ---- 14 ----

    private static void stepSealed() {
        DUE.sentence("14 buffer sealed: ERR_SEALED, before a wrong kind");
        for (State state : SEALS) {
            for (int kind : new int[] {0, 1, 2, -1, 3, MIN, MAX}) {
                Seen.refused(DUE, state, "addStep(" + kind + ", 0, 0)", x -> x.addStep(kind, 0, 0), SEALED);
            }
        }
    }

    private static void stepKind() {
        DUE.sentence("14 kind not in 0..2: ERR_ARG");
        for (int kind = 0; kind < 3; kind++) {
            DUE.due("kind " + kind, new ConnectionProver().addStep(kind, 0, 0), 0);
        }
        for (State state : UNSEALED) {
            for (int kind : new int[] {-1, 3, 4, 256, MIN, MAX}) {
                Seen.refused(DUE, state, "addStep(" + kind + ", 0, 0)", x -> x.addStep(kind, 0, 0), ARG);
            }
        }
    }

    private static void stepsFull() {
        DUE.sentence("14 MAX_STEPS steps held: ERR_FULL");
        for (int kind = 0; kind < 3; kind++) {
            ConnectionProver x = new ConnectionProver();
            for (int i = 0; i < 255; i++) {
                x.addStep(0, 0, 0);
            }
            DUE.due("the last that is taken", x.addStep(kind, 0, 0), 255);
            DUE.due("the first that is refused", x.addStep(kind, 0, 0), FULL);
            DUE.due("and again", x.addStep(kind, MIN, MAX), FULL);
            x.clearProof();
            DUE.due("the first after clearProof", x.addStep(kind, 0, 0), 0);
            int sameKind = kind;
            Seen.refused(DUE, State.ALL_STEPS, "addStep(" + kind + ", 0, 0)",
                    y -> y.addStep(sameKind, 0, 0), FULL);
        }
        DUE.due("bind is still accepted", State.ALL_STEPS.make().bind(255, 3, 0, 0), OK);
    }

    private static void kindBeforeFull() {
        DUE.sentence("14 considers in order: kind before MAX_STEPS");
        for (int kind : new int[] {-1, 3, MIN, MAX}) {
            Seen.refused(DUE, State.ALL_STEPS, "addStep(" + kind + ", 0, 0)", x -> x.addStep(kind, 0, 0), ARG);
        }
    }

    private static void stepIndex() {
        DUE.sentence("14 answers the new step's index, 0 for the first");
        ConnectionProver x = new ConnectionProver();
        for (int round = 0; round < 2; round++) {
            for (int i = 0; i < 256; i++) {
                x.addStep(3, 0, 0);
                DUE.due("addStep", x.addStep(i % 3, i, -i), i);
            }
            x.clearProof();
        }
        DUE.due("after four steps", State.WRITTEN.make().addStep(0, 0, 0), 4);
    }

    /** Each number here would be a good one if some of its bits were lost. */
    private static void stepNumbers() {
        DUE.sentence("14 with a and b kept exactly as given (any int values; they are judged only by check)");
        for (int odd : new int[] {256, 65536, 1 << 24, 1 << 30, MIN, -256, -65536, -1, MAX}) {
            due("START", ConnectionProver.CHK_CLAUSE, 0, 0, odd, 0);
            due("EXT clause", ConnectionProver.CHK_CLAUSE, 1, 0, 0, 0, 1, odd + (odd == -1 ? 0 : 1), 0);
            due("EXT literal", ConnectionProver.CHK_LIT, 1, 0, 0, 0, 1, 1, odd);
            due("RED", ConnectionProver.CHK_PATH, 2, 0, 0, 0, 1, 1, 0, 2, odd, 0);
        }
        due("none of them odd", VALID, -1, 0, 0, 0, 1, 1, 0, 2, 0, 0);
        ConnectionProver x = new ConnectionProver();
        x.addStep(1, MAX, MIN);
        Entry.add(x, "p");
        DUE.due("judged by check alone", x.check(), ConnectionProver.CHK_START);
    }

    private static void due(String name, int want, int step, int... steps) {
        ConnectionProver x = Entry.of("p; -p | -p");
        for (int i = 0; i < steps.length; i += 3) {
            DUE.due(name + " taken", x.addStep(steps[i], steps[i + 1], steps[i + 2]), i / 3);
        }
        DUE.due(name + " check", x.check(), want);
        DUE.due(name + " getCheckStep", x.getCheckStep(), step);
    }

    private static void stepUnusedNumber() {
        DUE.sentence("14 and b is unused for START and RED");
        for (int b : new int[] {-1, 0, 1, 2, 3, 256, MIN, MAX}) {
            due("b = " + b, VALID, -1, 0, 0, b, 1, 1, 0, 2, 0, b);
        }
    }

    private static void stepLeavesTheRest() {
        DUE.sentence("14 bindings, the sealed flag, clauses, the kept proof and the last check step do not change");
        Set<Seen.Part> rest = EnumSet.complementOf(EnumSet.of(Seen.Part.STEPS));
        for (State state : UNSEALED) {
            if (state != State.FRESH) {
                for (int kind = 0; kind < 3; kind++) {
                    int sameKind = kind;
                    Seen.same(DUE, state, "addStep", x -> x.addStep(sameKind, 0, 0), rest);
                }
            }
        }
        Seen.same(DUE, State.FRESH, "addStep", x -> x.addStep(0, 0, 0), rest);
        ConnectionProver x = asking(1);
        bindAll(x, 1);
        for (int i = 2; i < 256; i++) {
            x.addStep(1, 0, 0);
        }
        for (int k = 1; k < 512; k++) {
            x.bind(0, 2, k / 2, 2 + k % 2);
            x.check();
            DUE.due("variable " + k + " is bound to c1 after 256 steps", x.getCheckStep(), 2);
        }
    }

    // ---- 15 ----

    private static void bindRefused(State state, int want, int copy, int var, int tcopy, int tterm) {
        Seen.refused(DUE, state, "bind(" + copy + ", " + var + ", " + tcopy + ", " + tterm + ")",
                x -> x.bind(copy, var, tcopy, tterm), want);
    }

    private static void bindSealed() {
        DUE.sentence("15 buffer sealed: ERR_SEALED, before any wrong number");
        for (State state : SEALS) {
            bindRefused(state, SEALED, 0, 2, 0, 0);
            bindRefused(state, SEALED, 0, 2, 0, 1);
            bindRefused(state, SEALED, 1, 2, 1, 2);
            bindRefused(state, SEALED, 1, 2, 1, 3);
            bindRefused(state, SEALED, -1, 2, 0, 0);
            bindRefused(state, SEALED, 256, 2, 0, 0);
            bindRefused(state, SEALED, 0, 1, 0, 0);
            bindRefused(state, SEALED, 0, 4, 0, 0);
            bindRefused(state, SEALED, 0, 2, 0, -1);
            bindRefused(state, SEALED, 0, 2, 0, 4);
            bindRefused(state, SEALED, 0, 2, -1, 2);
            bindRefused(state, SEALED, 0, 2, 256, 3);
        }
    }

    private static void bindCopy() {
        DUE.sentence("15 copy not in 0..255: ERR_ARG");
        DUE.due("the first copy", new ConnectionProver().bind(0, 2, 0, 0), OK);
        DUE.due("the last copy", new ConnectionProver().bind(255, 3, 0, 0), OK);
        for (State state : UNSEALED) {
            for (int bad : new int[] {-1, 256, MIN, MAX, 1 << 30, -256}) {
                bindRefused(state, ARG, bad, 2, 0, 1);
                bindRefused(state, ARG, bad, 3, 0, 2);
            }
        }
    }

    private static void bindVariable() {
        DUE.sentence("15 var not T_X0 or T_X1: ERR_ARG");
        DUE.due("X0", new ConnectionProver().bind(0, 2, 0, 0), OK);
        DUE.due("X1", new ConnectionProver().bind(0, 3, 0, 0), OK);
        for (State state : UNSEALED) {
            for (int bad : new int[] {-1, 0, 1, 4, 5, 16, MIN, MAX, 258}) {
                bindRefused(state, ARG, 0, bad, 0, 1);
                bindRefused(state, ARG, 7, bad, 0, 2);
            }
        }
    }

    private static void bindTerm() {
        DUE.sentence("15 tterm not in 0..3: ERR_ARG");
        for (int good = 0; good < 4; good++) {
            DUE.due("tterm " + good, new ConnectionProver().bind(0, 2, 1, good), OK);
        }
        for (State state : UNSEALED) {
            for (int bad : new int[] {-1, 4, 5, MIN, MAX, 256}) {
                bindRefused(state, ARG, 0, 2, 0, bad);
                bindRefused(state, ARG, 7, 3, 7, bad);
            }
        }
    }

    private static void bindTermCopy() {
        DUE.sentence("15 tterm a variable code and tcopy not in 0..255: ERR_ARG");
        for (int good : new int[] {0, 255}) {
            DUE.due("tcopy " + good, new ConnectionProver().bind(1, 2, good, 2), OK);
            DUE.due("tcopy " + good, new ConnectionProver().bind(1, 2, good, 3), OK);
        }
        for (State state : UNSEALED) {
            for (int bad : new int[] {-1, 256, MIN, MAX, 1 << 30, -256}) {
                bindRefused(state, ARG, 0, 2, bad, 2);
                bindRefused(state, ARG, 0, 2, bad, 3);
                bindRefused(state, ARG, 7, 3, bad, 3);
            }
        }
    }

    private static void bindWrongTwice() {
        DUE.sentence("15 considers in order: two wrong numbers at once");
        for (State state : Set.of(State.WRITTEN, State.ALL_STEPS)) {
            bindRefused(state, ARG, -1, 1, 0, 0);
            bindRefused(state, ARG, 256, 2, 0, 4);
            bindRefused(state, ARG, 256, 2, 256, 2);
            bindRefused(state, ARG, 0, 4, 0, -1);
            bindRefused(state, ARG, 0, 4, -1, 3);
            bindRefused(state, ARG, 0, 2, 256, 4);
            bindRefused(state, ARG, MIN, MAX, MIN, MAX);
        }
    }

    private static void bindToConstant() {
        DUE.sentence("15 tterm a constant: the variable is bound to that constant, and tcopy is ignored");
        for (int tcopy : new int[] {0, 1, 255, 256, -1, 1 << 30, MIN, MAX}) {
            for (int constant = 0; constant < 2; constant++) {
                ConnectionProver x = asking(constant);
                DUE.due("bind", x.bind(0, 2, tcopy, 1 - constant), OK);
                DUE.due("to the other", x.check(), ARGS);
                DUE.due("bind", x.bind(0, 2, tcopy, constant), OK);
                DUE.due("to the constant with tcopy " + tcopy, x.check(), VALID);
            }
        }
    }

    private static void bindToItself() {
        DUE.sentence("15 (tcopy, tterm) = (copy, var): the variable becomes unbound");
        for (int k = 0; k < 512; k++) {
            ConnectionProver x = asking(0);
            if (k != 0) {
                x.bind(0, 2, k / 2, 2 + k % 2);
            }
            x.bind(k / 2, 2 + k % 2, 0, 0);
            DUE.due("bound", x.check(), VALID);
            DUE.due("bind", x.bind(k / 2, 2 + k % 2, k / 2, 2 + k % 2), OK);
            DUE.due("unbound", x.check(), ARGS);
            DUE.due("bind again", x.bind(k / 2, 2 + k % 2, k / 2, 2 + k % 2), OK);
            DUE.due("still unbound, no cycle", x.check(), ARGS);
        }
    }

    private static void bindToVariable() {
        DUE.sentence("15 otherwise it is bound to the variable (tcopy, tterm)");
        for (int k = 1; k < 512; k++) {
            ConnectionProver x = asking(1);
            bindAll(x, 0);
            x.bind(k / 2, 2 + k % 2, 0, 1);
            DUE.due("to another constant", x.check(), ARGS);
            DUE.due("bind", x.bind(0, 2, k / 2, 2 + k % 2), OK);
            DUE.due("to (" + k / 2 + ", X" + k % 2 + ")", x.check(), VALID);
        }
    }

    private static void bindReplaces() {
        DUE.sentence("15 any earlier binding of (copy, var) is replaced, and the answer is OK");
        for (int from = 0; from < 4; from++) {
            for (int to = 0; to < 4; to++) {
                ConnectionProver x = asking(1);
                x.bind(9, 3, 0, 1);
                DUE.due("bind", bindAs(x, from), OK);
                DUE.due("bound as " + from, x.check(), from == 1 || from == 2 ? VALID : ARGS);
                DUE.due("bind", bindAs(x, to), OK);
                DUE.due("replaced by " + to, x.check(), to == 1 || to == 2 ? VALID : ARGS);
            }
        }
    }

    private static int bindAs(ConnectionProver x, int way) {
        return switch (way) {
            case 0 -> x.bind(0, 2, 0, 0);
            case 1 -> x.bind(0, 2, 0, 1);
            case 2 -> x.bind(0, 2, 9, 3);
            default -> x.bind(0, 2, 0, 2);
        };
    }

    private static void bindCycles() {
        DUE.sentence("15 bindings that form chains or cycles are accepted");
        for (int length : new int[] {2, 3, 255, 256, 257, 511, 512}) {
            ConnectionProver x = asking(0);
            for (int k = 0; k < length; k++) {
                int next = (k + 1) % length;
                DUE.due("bind", x.bind(k / 2, 2 + k % 2, next / 2, 2 + next % 2), OK);
            }
            DUE.due("a cycle of " + length, x.check(), CYCLE);
            int last = length - 1;
            DUE.due("bind", x.bind(last / 2, 2 + last % 2, 0, 0), OK);
            DUE.due("a chain of " + length, x.check(), VALID);
        }
    }

    private static void bindLeavesOthers() {
        DUE.sentence("15 no other variable's binding changes");
        for (int k = 1; k < 512; k++) {
            ConnectionProver x = asking(1);
            bindAll(x, 1);
            x.bind(k / 2, 2 + k % 2, 0, 0);
            DUE.due("(0, X0)", x.check(), VALID);
            for (int other = 1; other < 512; other++) {
                x.bind(0, 2, other / 2, 2 + other % 2);
                DUE.due("variable " + other + " after one of " + k, x.check(), other == k ? ARGS : VALID);
            }
        }
    }

    private static void bindLeavesTheRest() {
        DUE.sentence("15 no step, and nothing outside the buffer changes");
        Set<Seen.Part> rest = EnumSet.complementOf(EnumSet.of(Seen.Part.BINDINGS));
        for (State state : UNSEALED) {
            bindSame(state, x -> x.bind(0, 2, 0, 1), rest);
            bindSame(state, x -> x.bind(0, 2, 0, 2), rest);
            bindSame(state, x -> x.bind(0, 2, 1, 2), rest);
            bindSame(state, x -> x.bind(255, 3, 255, 2), rest);
            bindSame(state, BufferEdgesTest::bindAllInACycle, rest);
        }
    }

    private static void bindSame(State state, Consumer<ConnectionProver> call, Set<Seen.Part> rest) {
        Seen.same(DUE, state, "bind", call, rest);
    }
}
