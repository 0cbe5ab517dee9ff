import java.util.Arrays;
import java.util.EnumSet;

/** Promise 16 and the term 'Proofs': each sentence with an edge has a test of its own. */
public final class CheckEdgesTest {
    private static final Due DUE = new Due();
    private static final int START = ConnectionProver.STEP_START;
    private static final int EXT = ConnectionProver.STEP_EXT;
    private static final int RED = ConnectionProver.STEP_RED;
    private static final int VALID = ConnectionProver.VALID;
    private static final int CHK_EMPTY = ConnectionProver.CHK_EMPTY;
    private static final int CHK_START = ConnectionProver.CHK_START;
    private static final int CHK_CLAUSE = ConnectionProver.CHK_CLAUSE;
    private static final int CHK_LIT = ConnectionProver.CHK_LIT;
    private static final int CHK_PATH = ConnectionProver.CHK_PATH;
    private static final int CHK_COMPLEMENT = ConnectionProver.CHK_COMPLEMENT;
    private static final int CHK_ARGS = ConnectionProver.CHK_ARGS;
    private static final int CHK_CYCLE = ConnectionProver.CHK_CYCLE;
    private static final int CHK_EXTRA = ConnectionProver.CHK_EXTRA;
    private static final int CHK_OPEN = ConnectionProver.CHK_OPEN;
    private static final int MIN = Integer.MIN_VALUE;
    private static final int MAX = Integer.MAX_VALUE;

    /** No clause number, whatever clauses there are. */
    private static final int[] NO_CLAUSE = {-1, -2, 8, 9, 256, MIN, MAX};

    public static void main(String[] args) {
        empty();
        firstKind();
        firstClause();
        firstKindBeforeClause();
        firstGoals();
        firstFailure();
        extra();
        extraBeforeAll();
        laterStart();
        extensionClause();
        clauseBeforeLiteral();
        extensionLiteral();
        literalBeforeComplement();
        extensionPartner();
        reductionPath();
        pathBeforeComplement();
        reductionPartner();
        complement();
        complementBeforeArguments();
        noArguments();
        positionsInTurn();
        cycleBeforeArguments();
        cycleOfEither();
        goalsOfExtension();
        pathOfExtension();
        noGoalsOfReduction();
        openAtTheEnd();
        failureBeforeOpen();
        validAtTheEnd();
        copies();
        resolvingMoves();
        resolvingCycles();
        agreement();
        clauseNumbers();
        clausesAtTheCall();
        recorded();
        nothingElse();
        sound();
        checkStepBefore();
        DUE.finish();
    }

    /** Writes the steps (three numbers each) into an emptied buffer and checks them. */
    private static void due(ConnectionProver x, int want, int step, int... steps) {
        x.clearProof();
        dueBound(x, want, step, steps);
    }

    /** The same without emptying, so that bindings stay. */
    private static void dueBound(ConnectionProver x, int want, int step, int... steps) {
        for (int i = 0; i < steps.length; i += 3) {
            x.addStep(steps[i], steps[i + 1], steps[i + 2]);
        }
        dueNow(x, Arrays.toString(steps), want, step);
    }

    private static void dueNow(ConnectionProver x, String what, int want, int step) {
        DUE.due("check of " + what, x.check(), want);
        DUE.due("getCheckStep of " + what, x.getCheckStep(), step);
    }

    private static void bind(ConnectionProver x, int k, int target) {
        x.bind(k / 2, 2 + k % 2, target / 2, 2 + target % 2);
    }

    /** START 0 and then EXT 1 0 until there are so many steps. */
    private static void chain(ConnectionProver x, int steps) {
        x.clearProof();
        x.addStep(START, 0, 0);
        for (int i = 1; i < steps; i++) {
            x.addStep(EXT, 1, 0);
        }
    }

    // ---- 1 and 2 ----

    private static void empty() {
        DUE.sentence("16.1 n = 0: CHK_EMPTY at step 0");
        due(new ConnectionProver(), CHK_EMPTY, 0);
        due(Entry.of(""), CHK_EMPTY, 0);
        due(Entry.of("p; -p"), CHK_EMPTY, 0);
        for (State state : State.values()) {
            due(state.make(), CHK_EMPTY, 0);
        }
        ConnectionProver x = new ConnectionProver();
        x.bind(0, 2, 0, 0);
        x.addStep(3, 0, 0);
        dueNow(x, "bindings and a refused step", CHK_EMPTY, 0);
        x.addStep(START, 0, 0);
        dueNow(x, "one step", CHK_CLAUSE, 0);
    }

    private static void firstKind() {
        DUE.sentence("16.2 step 0 not of kind START: CHK_START at step 0");
        ConnectionProver x = Entry.of("p; -p; ");
        due(x, CHK_START, 0, EXT, 0, 0);
        due(x, CHK_START, 0, RED, 0, 0);
        due(x, CHK_START, 0, EXT, 0, 0, START, 0, 0, EXT, 1, 0);
        due(x, CHK_START, 0, RED, 0, 0, START, 0, 0, EXT, 1, 0);
        due(x, CHK_OPEN, 1, START, 0, 0);
    }

    private static void firstClause() {
        DUE.sentence("16.2 its a not a clause number: CHK_CLAUSE at step 0");
        ConnectionProver x = Entry.of("p; -p; p; -p; p; -p; p; -p");
        for (int a : NO_CLAUSE) {
            due(x, CHK_CLAUSE, 0, START, a, 0);
            due(x, CHK_CLAUSE, 0, START, a, 0, EXT, 1, 0);
        }
        due(x, VALID, -1, START, 0, 0, EXT, 1, 0);
        due(x, VALID, -1, START, 7, 0, EXT, 0, 0);
        x = Entry.of("p; -p");
        Entry.pend(x, "p");
        due(x, CHK_OPEN, 1, START, 1, 0);
        due(x, CHK_CLAUSE, 0, START, 2, 0);
        due(x, CHK_CLAUSE, 0, START, 3, 0);
        due(new ConnectionProver(), CHK_CLAUSE, 0, START, 0, 0);
    }

    private static void firstKindBeforeClause() {
        DUE.sentence("16.2 the kind before the clause");
        ConnectionProver x = Entry.of("p; -p");
        for (int a : NO_CLAUSE) {
            due(x, CHK_START, 0, EXT, a, a);
            due(x, CHK_START, 0, RED, a, a);
            due(new ConnectionProver(), CHK_START, 0, EXT, a, a);
        }
    }

    private static void firstGoals() {
        DUE.sentence("16.2 else the literals of copy 0 become open goals with empty path, literal 0 on top");
        ConnectionProver x = Entry.of("p | q | r; -p; -q; -r; ");
        due(x, VALID, -1, START, 0, 0, EXT, 1, 0, EXT, 2, 0, EXT, 3, 0);
        due(x, CHK_COMPLEMENT, 1, START, 0, 0, EXT, 2, 0);
        due(x, CHK_COMPLEMENT, 1, START, 0, 0, EXT, 3, 0);
        due(x, CHK_COMPLEMENT, 2, START, 0, 0, EXT, 1, 0, EXT, 3, 0);
        due(x, CHK_PATH, 1, START, 0, 0, RED, 0, 0);
        due(x, CHK_PATH, 2, START, 0, 0, EXT, 1, 0, RED, 0, 0);
        due(x, CHK_PATH, 3, START, 0, 0, EXT, 1, 0, EXT, 2, 0, RED, 0, 0);
        due(x, VALID, -1, START, 4, 0);
    }

    // ---- 3 ----

    private static void firstFailure() {
        DUE.sentence("16.3 for i = 1 .. n-1, stopping at the first failure, which is reported at step i");
        ConnectionProver x = Entry.of("p; -p | p; -p");
        due(x, CHK_LIT, 1, START, 0, 0, EXT, 1, 2, EXT, 9, 0);
        due(x, CHK_CLAUSE, 1, START, 0, 0, EXT, 9, 0, EXT, 1, 2);
        due(x, CHK_PATH, 1, START, 0, 0, RED, 0, 0, EXT, 2, 0);
        due(x, CHK_COMPLEMENT, 2, START, 0, 0, EXT, 1, 0, EXT, 0, 0, EXT, 9, 0);
        for (int i = 1; i < 256; i++) {
            chain(x, i);
            x.addStep(EXT, 9, 0);
            x.addStep(RED, -1, 0);
            dueNow(x, "a failure at step " + i, CHK_CLAUSE, i);
        }
    }

    private static void extra() {
        DUE.sentence("16.3a no open goal: CHK_EXTRA");
        ConnectionProver x = Entry.of("p; -p | p; -p; ");
        due(x, CHK_EXTRA, 1, START, 3, 0, EXT, 0, 0);
        due(x, CHK_EXTRA, 2, START, 0, 0, EXT, 2, 0, EXT, 2, 0);
        due(x, CHK_EXTRA, 2, START, 2, 0, EXT, 0, 0, EXT, 0, 0, EXT, 0, 0);
        chain(x, 254);
        x.addStep(EXT, 2, 0);
        dueNow(x, "255 steps", VALID, -1);
        x.addStep(EXT, 2, 0);
        dueNow(x, "256 steps", CHK_EXTRA, 255);
    }

    private static void extraBeforeAll() {
        DUE.sentence("16.3a before b");
        ConnectionProver x = Entry.of("p; -p; ");
        for (int a : new int[] {0, 1, -1, 8, MIN, MAX}) {
            for (int kind = 0; kind < 3; kind++) {
                due(x, CHK_EXTRA, 1, START, 2, 0, kind, a, 0);
                due(x, CHK_EXTRA, 2, START, 0, 0, EXT, 1, 0, kind, a, a);
            }
        }
    }

    private static void laterStart() {
        DUE.sentence("16.3b kind START: CHK_START");
        ConnectionProver x = Entry.of("p | p; -p | p; -p");
        for (int a : new int[] {0, 1, 2, 3, -1, MIN, MAX}) {
            due(x, CHK_START, 1, START, 0, 0, START, a, 0);
            due(x, CHK_START, 2, START, 0, 0, EXT, 2, 0, START, a, a);
        }
        chain(x, 255);
        x.addStep(START, 0, 0);
        dueNow(x, "START as the last of 256", CHK_START, 255);
    }

    private static void extensionClause() {
        DUE.sentence("16.3b kind EXT: a not a clause number: CHK_CLAUSE");
        ConnectionProver x = Entry.of("p; -p; p; p; p; p; p; -p");
        for (int a : NO_CLAUSE) {
            due(x, CHK_CLAUSE, 1, START, 0, 0, EXT, a, 0);
        }
        due(x, VALID, -1, START, 0, 0, EXT, 7, 0);
        due(x, VALID, -1, START, 1, 0, EXT, 0, 0);
        x = Entry.of("p; -p");
        Entry.pend(x, "-p");
        due(x, CHK_CLAUSE, 1, START, 0, 0, EXT, 2, 0);
        x.endClause();
        dueNow(x, "the same with the clause finished", VALID, -1);
    }

    private static void clauseBeforeLiteral() {
        DUE.sentence("16.3b CHK_CLAUSE before CHK_LIT");
        ConnectionProver x = Entry.of("p; -p");
        for (int a : NO_CLAUSE) {
            for (int b : new int[] {-1, 1, 3, MIN, MAX}) {
                due(x, CHK_CLAUSE, 1, START, 0, 0, EXT, a, b);
            }
        }
    }

    private static void extensionLiteral() {
        DUE.sentence("16.3b b not in 0..(length of clause a)-1: CHK_LIT");
        ConnectionProver x = Entry.of("p; -p; -p | -p; -p | -p | -p; ; -p");
        Entry.pend(x, "-p | -p | -p");
        int[] lengths = {1, 1, 2, 3, 0, 1};
        for (int a = 1; a < lengths.length; a++) {
            for (int b = 0; b < lengths[a]; b++) {
                int want = lengths[a] == 1 ? VALID : CHK_OPEN;
                due(x, want, want == VALID ? -1 : 2, START, 0, 0, EXT, a, b);
            }
            for (int b : new int[] {-1, lengths[a], lengths[a] + 1, 3, 16, 256, MIN, MAX}) {
                due(x, CHK_LIT, 1, START, 0, 0, EXT, a, b);
            }
        }
    }

    private static void literalBeforeComplement() {
        DUE.sentence("16.3b CHK_LIT before c");
        ConnectionProver x = Entry.of("p; p; q; q | q");
        for (int b : new int[] {-1, 2, 3, MIN, MAX}) {
            due(x, CHK_LIT, 1, START, 0, 0, EXT, 1, b);
            due(x, CHK_LIT, 1, START, 0, 0, EXT, 2, b);
            due(x, CHK_LIT, 1, START, 0, 0, EXT, 3, b);
        }
        due(x, CHK_COMPLEMENT, 1, START, 0, 0, EXT, 3, 1);
    }

    private static void extensionPartner() {
        DUE.sentence("16.3b the partner is literal b of copy i");
        ConnectionProver x = Entry.of("p(c0); q(c0) | -p(X0) | -p(X1); -q(X0)");
        x.bind(1, 2, 0, 0);
        x.bind(1, 3, 0, 1);
        dueBound(x, CHK_OPEN, 2, START, 0, 0, EXT, 1, 1);
        x.clearProof();
        x.bind(1, 2, 0, 0);
        x.bind(1, 3, 0, 1);
        dueBound(x, CHK_ARGS, 1, START, 0, 0, EXT, 1, 2);
        due(x, CHK_COMPLEMENT, 1, START, 0, 0, EXT, 1, 0);
        x.clearProof();
        x.bind(0, 2, 0, 0);
        x.bind(2, 2, 0, 0);
        dueBound(x, CHK_ARGS, 1, START, 0, 0, EXT, 1, 1);
    }

    private static void reductionPath() {
        DUE.sentence("16.3b kind RED: a not in 0..(length of g's path)-1: CHK_PATH");
        ConnectionProver x = Entry.of("p; -p | p; -p | -p");
        for (int a : new int[] {-1, 0, 1, 256, MIN, MAX}) {
            due(x, CHK_PATH, 1, START, 0, 0, RED, a, 0);
        }
        for (int length = 1; length <= 254; length++) {
            for (int a : new int[] {-1, 0, length - 1, length, length + 1, 255, 256, MIN, MAX}) {
                chain(x, length);
                x.addStep(EXT, 2, 1);
                x.addStep(RED, a, 0);
                boolean valid = a >= 0 && a < length;
                dueNow(x, "RED " + a + " of " + length, valid ? VALID : CHK_PATH, valid ? -1 : length + 1);
            }
        }
    }

    private static void pathBeforeComplement() {
        DUE.sentence("16.3b CHK_PATH before c");
        ConnectionProver x = Entry.of("p; -p | q");
        due(x, CHK_COMPLEMENT, 2, START, 0, 0, EXT, 1, 0, RED, 0, 0);
        due(x, CHK_PATH, 2, START, 0, 0, EXT, 1, 0, RED, 1, 0);
        due(x, CHK_PATH, 2, START, 0, 0, EXT, 1, 0, RED, -1, 0);
    }

    private static void reductionPartner() {
        DUE.sentence("16.3b the partner is path entry a; entry 0 nearest the root");
        ConnectionProver x = Entry.of("p; -p | q; -q | r; -r | s; -s | -p; -s | -q; -s | -r; -s | -s");
        for (int end = 4; end < 8; end++) {
            for (int a = 0; a < 4; a++) {
                int want = a == end - 4 ? VALID : CHK_COMPLEMENT;
                due(x, want, want == VALID ? -1 : 5, START, 0, 0, EXT, 1, 0, EXT, 2, 0, EXT, 3, 0,
                        EXT, end, 0, RED, a, 0);
            }
        }
        x = Entry.of("p(X0); -p(X0) | p(X1); -p(X1) | -p(X0)");
        int[] steps = {START, 0, 0, EXT, 1, 0, EXT, 2, 0, RED, 0, 0};
        x.bind(0, 2, 0, 0);
        x.bind(1, 2, 0, 0);
        x.bind(1, 3, 0, 1);
        x.bind(2, 3, 0, 1);
        x.bind(2, 2, 0, 0);
        dueBound(x, VALID, -1, steps);
        x.bind(2, 2, 0, 1);
        dueNow(x, "the argument of entry 1", CHK_ARGS, 3);
    }

    private static void complement() {
        DUE.sentence("16.3c signs equal or predicates different: CHK_COMPLEMENT");
        for (String goal : new String[] {"p", "-p"}) {
            for (String partner : new String[] {"p", "-p", "q", "-q", "r", "s"}) {
                ConnectionProver x = Entry.of(goal + "; " + partner);
                boolean fits = !goal.equals(partner) && partner.endsWith("p");
                due(x, fits ? VALID : CHK_COMPLEMENT, fits ? -1 : 1, START, 0, 0, EXT, 1, 0);
            }
        }
        ConnectionProver x = Entry.of("p; -p | p; -p | q; -p | -p; -p | -q");
        due(x, CHK_COMPLEMENT, 2, START, 0, 0, EXT, 1, 0, RED, 0, 0);
        due(x, CHK_COMPLEMENT, 2, START, 0, 0, EXT, 2, 0, RED, 0, 0);
        due(x, VALID, -1, START, 0, 0, EXT, 3, 0, RED, 0, 0);
        due(x, CHK_COMPLEMENT, 2, START, 0, 0, EXT, 4, 0, RED, 0, 0);
    }

    private static void complementBeforeArguments() {
        DUE.sentence("16.3c before d");
        ConnectionProver x = Entry.of("p(c0); p(c1); q(c0); p(X0); -q(X0)");
        due(x, CHK_COMPLEMENT, 1, START, 0, 0, EXT, 1, 0);
        due(x, CHK_COMPLEMENT, 1, START, 0, 0, EXT, 2, 0);
        x.clearProof();
        x.bind(1, 2, 1, 3);
        x.bind(1, 3, 1, 2);
        dueBound(x, CHK_COMPLEMENT, 1, START, 0, 0, EXT, 3, 0);
        x.clearProof();
        x.bind(1, 2, 1, 3);
        x.bind(1, 3, 1, 2);
        dueBound(x, CHK_COMPLEMENT, 1, START, 0, 0, EXT, 4, 0);
        x = Entry.of("p(X0); -q; -r(c0,X0)");
        due(x, CHK_COMPLEMENT, 1, START, 0, 0, EXT, 1, 0);
        due(x, CHK_COMPLEMENT, 1, START, 0, 0, EXT, 2, 0);
        due(x, CHK_COMPLEMENT, 1, START, 2, 0, EXT, 0, 0);
    }

    private static void noArguments() {
        DUE.sentence("16.3d for argument position p = 0 .. arity-1: none for arity 0, one for arity 1");
        ConnectionProver x = Entry.of("p; -p; q(X0); -q(X0)");
        for (int k = 0; k < 512; k++) {
            bind(x, k, (k + 1) % 512);
        }
        dueBound(x, VALID, -1, START, 0, 0, EXT, 1, 0);
        x.clearProof();
        bind(x, 1, 3);
        bind(x, 3, 1);
        bind(x, 0, 2);
        dueBound(x, VALID, -1, START, 2, 0, EXT, 3, 0);
    }

    private static void positionsInTurn() {
        DUE.sentence("16.3d in turn: position 0 is judged before position 1");
        ConnectionProver x = Entry.of("p(X0,X1); -p(c0,c1)");
        int[] steps = {START, 0, 0, EXT, 1, 0};
        bind(x, 1, 10);
        bind(x, 10, 11);
        bind(x, 11, 10);
        x.bind(0, 2, 0, 1);
        dueBound(x, CHK_ARGS, 1, steps);
        x.bind(0, 2, 0, 0);
        dueNow(x, "a cycle in position 1", CHK_CYCLE, 1);
        bind(x, 0, 10);
        dueNow(x, "a cycle in both", CHK_CYCLE, 1);
        x.bind(0, 3, 0, 0);
        dueNow(x, "a cycle in position 0, c0 for c1 in position 1", CHK_CYCLE, 1);
        x.bind(0, 2, 0, 0);
        dueNow(x, "c0 for c1 in position 1", CHK_ARGS, 1);
        x.bind(0, 3, 0, 1);
        dueNow(x, "both agree", VALID, -1);
    }

    private static void cycleBeforeArguments() {
        DUE.sentence("16.3d if either has a cycle: CHK_CYCLE; if they do not agree: CHK_ARGS");
        ConnectionProver x = Entry.of("p(X0); -p(X0); -p(c0)");
        x.addStep(START, 0, 0);
        x.addStep(EXT, 1, 0);
        dueNow(x, "two unbound", CHK_ARGS, 1);
        bind(x, 0, 20);
        bind(x, 20, 21);
        bind(x, 21, 20);
        dueNow(x, "a cycle and an unbound variable", CHK_CYCLE, 1);
        x.bind(1, 2, 0, 1);
        dueNow(x, "a cycle and a constant", CHK_CYCLE, 1);
        bind(x, 2, 20);
        dueNow(x, "the same cycle twice", CHK_CYCLE, 1);
        bind(x, 0, 2);
        dueNow(x, "one through the other", CHK_CYCLE, 1);
        bind(x, 2, 2);
        dueNow(x, "one bound to the other", VALID, -1);
    }

    private static void cycleOfEither() {
        DUE.sentence("16.3d resolve g's argument p, then the partner's");
        for (int position = 0; position < 2; position++) {
            String vars = position == 0 ? "X0,c1" : "c0,X0";
            ConnectionProver x = Entry.of("p(" + vars + "); -p(c0,c1); p(c0,c1); -p(" + vars + ")");
            due(x, CHK_ARGS, 1, START, 0, 0, EXT, 1, 0);
            bind(x, 0, 30);
            bind(x, 30, 31);
            bind(x, 31, 30);
            dueNow(x, "the goal's cycle", CHK_CYCLE, 1);
            due(x, CHK_ARGS, 1, START, 2, 0, EXT, 3, 0);
            bind(x, 2, 30);
            bind(x, 30, 31);
            bind(x, 31, 30);
            dueNow(x, "the partner's cycle", CHK_CYCLE, 1);
        }
    }

    private static void goalsOfExtension() {
        DUE.sentence("16.3e the literals of copy i other than b become open goals, the smallest on top");
        String[] clauses = {"-p | q | r", "q | -p | r", "q | r | -p"};
        for (int b = 0; b < 3; b++) {
            ConnectionProver x = Entry.of("p | s; " + clauses[b] + "; -q; -r; -s");
            due(x, VALID, -1, START, 0, 0, EXT, 1, b, EXT, 2, 0, EXT, 3, 0, EXT, 4, 0);
            due(x, CHK_COMPLEMENT, 2, START, 0, 0, EXT, 1, b, EXT, 3, 0);
            due(x, CHK_COMPLEMENT, 2, START, 0, 0, EXT, 1, b, EXT, 4, 0);
            due(x, CHK_COMPLEMENT, 3, START, 0, 0, EXT, 1, b, EXT, 2, 0, EXT, 4, 0);
            due(x, CHK_OPEN, 4, START, 0, 0, EXT, 1, b, EXT, 2, 0, EXT, 3, 0);
        }
        ConnectionProver x = Entry.of("p | p | p; -p | p | p; -p");
        chain(x, 256);
        dueNow(x, "258 open goals", CHK_OPEN, 256);
        chain(x, 127);
        for (int i = 0; i < 129; i++) {
            x.addStep(EXT, 2, 0);
        }
        dueNow(x, "129 goals opened and closed", VALID, -1);
    }

    private static void pathOfExtension() {
        DUE.sentence("16.3e each with path = g's path followed by g");
        ConnectionProver x = Entry.of("p | p; -p | q | q; -q | -p; -p | -q");
        int[] first = {START, 0, 0, EXT, 1, 0, EXT, 2, 0};
        due(x, CHK_COMPLEMENT, 3, join(first, RED, 1, 0));
        due(x, CHK_PATH, 3, join(first, RED, 2, 0));
        due(x, CHK_OPEN, 4, join(first, RED, 0, 0));
        // The second goal q of copy 1 has the path p, not what was below the first.
        due(x, CHK_PATH, 4, join(first, RED, 0, 0, RED, 1, 0));
        due(x, CHK_COMPLEMENT, 4, join(first, RED, 0, 0, RED, 0, 0));
        due(x, CHK_OPEN, 6, join(first, RED, 0, 0, EXT, 2, 0, RED, 0, 0));
        // The second goal of the root has the empty path again.
        due(x, CHK_PATH, 6, join(first, RED, 0, 0, EXT, 2, 0, RED, 0, 0, RED, 0, 0));
        due(x, CHK_PATH, 7, join(first, RED, 0, 0, EXT, 2, 0, RED, 0, 0, EXT, 3, 0, RED, 1, 0));
    }

    private static int[] join(int[] first, int... second) {
        int[] all = Arrays.copyOf(first, first.length + second.length);
        System.arraycopy(second, 0, all, first.length, second.length);
        return all;
    }

    private static void noGoalsOfReduction() {
        DUE.sentence("16.3e EXT only");
        ConnectionProver x = Entry.of("p; -p | -p; -p | -p | -p");
        due(x, VALID, -1, START, 0, 0, EXT, 1, 0, RED, 0, 0);
        due(x, CHK_EXTRA, 3, START, 0, 0, EXT, 1, 0, RED, 0, 0, RED, 0, 0);
        due(x, VALID, -1, START, 0, 0, EXT, 2, 1, RED, 0, 0, RED, 0, 0);
        due(x, CHK_OPEN, 3, START, 0, 0, EXT, 2, 1, RED, 0, 0);
    }

    // ---- 4 ----

    private static void openAtTheEnd() {
        DUE.sentence("16.4 if open goals remain: CHK_OPEN at step n");
        ConnectionProver x = Entry.of("p | p; -p | p; -p");
        due(x, CHK_OPEN, 1, START, 0, 0);
        due(x, CHK_OPEN, 2, START, 0, 0, EXT, 2, 0);
        due(x, CHK_OPEN, 3, START, 0, 0, EXT, 1, 0, EXT, 2, 0);
        for (int n = 1; n <= 256; n++) {
            chain(x, n);
            dueNow(x, n + " steps", CHK_OPEN, n);
        }
    }

    private static void failureBeforeOpen() {
        DUE.sentence("16.4 after a failure the open goals do not count");
        ConnectionProver x = Entry.of("p | p | p; -p");
        due(x, CHK_START, 1, START, 0, 0, START, 0, 0);
        due(x, CHK_CLAUSE, 2, START, 0, 0, EXT, 1, 0, EXT, 2, 0);
        due(x, CHK_PATH, 3, START, 0, 0, EXT, 1, 0, EXT, 1, 0, RED, 0, 0);
    }

    private static void validAtTheEnd() {
        DUE.sentence("16.4 otherwise VALID, at step -1");
        ConnectionProver x = Entry.of("p; -p | p; -p; ");
        due(x, VALID, -1, START, 3, 0);
        due(x, VALID, -1, START, 0, 0, EXT, 2, 0);
        due(x, VALID, -1, START, 2, 0, EXT, 0, 0);
        for (int n = 2; n <= 256; n++) {
            chain(x, n - 1);
            x.addStep(EXT, 2, 0);
            dueNow(x, n + " steps", VALID, -1);
        }
    }

    // ---- terms ----

    private static void copies() {
        DUE.sentence("Proofs: step i makes copy i: each variable Xv read as the variable (i, Xv)");
        for (int var = 2; var < 4; var++) {
            String clauses = "p(V); -p(V) | p(V); -p(V)".replace("V", "X" + (var - 2));
            for (int odd = 0; odd < 256; odd++) {
                ConnectionProver x = Entry.of(clauses);
                chain(x, 255);
                x.addStep(EXT, 2, 0);
                for (int q = 0; q < 256; q++) {
                    x.bind(q, var, 0, q == odd ? 1 : 0);
                    x.bind(q, 5 - var, 0, 1);
                }
                dueNow(x, "copy " + odd + " apart", CHK_ARGS, odd == 0 ? 1 : odd);
                x.bind(odd, var, 0, 0);
                dueNow(x, "copy " + odd + " alike", VALID, -1);
            }
        }
    }

    private static void resolvingMoves() {
        DUE.sentence("Proofs: else if n = 512 the term has a cycle: 512 moves are not too many");
        for (int moves = 0; moves <= 512; moves++) {
            ConnectionProver x = Entry.of("p(X0); -p(c1); -p(X1)");
            x.addStep(START, 0, 0);
            x.addStep(EXT, 1, 0);
            for (int k = 0; k < moves && k < 511; k++) {
                bind(x, k, k + 1);
            }
            if (moves < 512) {
                dueNow(x, moves + " moves to an unbound variable", CHK_ARGS, 1);
            }
            int last = Math.max(moves, 1) - 1;
            x.bind(last / 2, 2 + last % 2, 0, 1);
            dueNow(x, (last + 1) + " moves to c1", VALID, -1);
            x.bind(last / 2, 2 + last % 2, 0, 0);
            dueNow(x, (last + 1) + " moves to c0", CHK_ARGS, 1);
        }
        ConnectionProver x = Entry.of("p(X0); -p(X1)");
        for (int k = 0; k < 511; k++) {
            bind(x, k, k + 1);
        }
        dueBound(x, VALID, -1, START, 0, 0, EXT, 1, 0);
    }

    private static void resolvingCycles() {
        DUE.sentence("Proofs: the term has a cycle, of two variables or of all, at once or after some moves");
        for (int last = 1; last < 512; last += last < 20 || last > 490 ? 1 : 47) {
            for (int back : new int[] {0, 1, last / 2, last - 1}) {
                if (back >= last) {
                    continue;
                }
                ConnectionProver x = Entry.of("p(X0); -p(c1)");
                for (int k = 0; k < last; k++) {
                    bind(x, k, k + 1);
                }
                bind(x, last, back);
                dueBound(x, CHK_CYCLE, 1, START, 0, 0, EXT, 1, 0);
                bind(x, last, last);
                dueNow(x, "the cycle of " + last + " opened", CHK_ARGS, 1);
            }
        }
        ConnectionProver x = Entry.of("p(c1); -p(c1)");
        bind(x, 0, 1);
        bind(x, 1, 0);
        dueBound(x, VALID, -1, START, 0, 0, EXT, 1, 0);
    }

    private static void agreement() {
        DUE.sentence("Proofs: two terms agree when they resolve to the same constant or to the same variable");
        ConnectionProver x = Entry.of("p(X0); -p(X0)");
        x.addStep(START, 0, 0);
        x.addStep(EXT, 1, 0);
        dueNow(x, "two unbound variables", CHK_ARGS, 1);
        for (int one = 0; one < 2; one++) {
            for (int other = 0; other < 2; other++) {
                x.bind(0, 2, 0, one);
                x.bind(1, 2, 0, other);
                dueNow(x, "constants " + one + " " + other, one == other ? VALID : CHK_ARGS, one == other ? -1 : 1);
            }
        }
        x.bind(1, 2, 1, 2);
        dueNow(x, "a constant and an unbound variable", CHK_ARGS, 1);
        bind(x, 0, 511);
        bind(x, 2, 511);
        dueNow(x, "the same variable", VALID, -1);
        bind(x, 2, 510);
        dueNow(x, "two variables of one copy", CHK_ARGS, 1);
        bind(x, 2, 509);
        dueNow(x, "one variable of two copies", CHK_ARGS, 1);
        bind(x, 509, 511);
        dueNow(x, "the same variable through a third", VALID, -1);
        x = Entry.of("p(X0); p(X1) | -p(X0) | -p(X1)");
        due(x, CHK_ARGS, 1, START, 1, 0, EXT, 1, 2);
    }

    private static void clauseNumbers() {
        DUE.sentence("Proofs: a clause number is an int in 0..getClauseCount()-1");
        ConnectionProver x = new ConnectionProver();
        for (int count = 0; count <= 8; count++) {
            for (int a = -1; a <= 9; a++) {
                boolean number = a >= 0 && a < count;
                due(x, number ? CHK_OPEN : CHK_CLAUSE, number ? 1 : 0, START, a, 0);
                if (count > 0) {
                    due(x, number ? CHK_COMPLEMENT : CHK_CLAUSE, 1, START, 0, 0, EXT, a, 0);
                }
            }
            x.addLiteral(0, 0, -1, -1);
            x.endClause();
        }
    }

    private static void clausesAtTheCall() {
        DUE.sentence("16 against the finished clauses as they are at the call");
        ConnectionProver x = new ConnectionProver();
        x.addStep(START, 0, 0);
        x.addStep(EXT, 1, 0);
        dueNow(x, "no clause", CHK_CLAUSE, 0);
        Entry.add(x, "p");
        dueNow(x, "one clause", CHK_CLAUSE, 1);
        Entry.pend(x, "-p");
        dueNow(x, "one pending", CHK_CLAUSE, 1);
        x.endClause();
        dueNow(x, "two clauses", VALID, -1);
        x.clearClauses();
        dueNow(x, "none again", CHK_CLAUSE, 0);
        Entry.add(x, "p; ");
        dueNow(x, "an empty second", CHK_LIT, 1);
        x.clearClauses();
        Entry.add(x, "; -p");
        dueNow(x, "an empty first", CHK_EXTRA, 1);
        x.clearClauses();
        Entry.add(x, "p(c0,c0); -p(c0,c1)");
        dueNow(x, "another arity", CHK_ARGS, 1);
    }

    // ---- the answer and its step ----

    private static void recorded() {
        DUE.sentence("16 its step is recorded as the last check step; getCheckStep() answers -1 after VALID");
        ConnectionProver x = Entry.of("p; -p | p; -p");
        chain(x, 256);
        dueNow(x, "open", CHK_OPEN, 256);
        x.clearProof();
        DUE.due("after clearProof", x.getCheckStep(), 256);
        dueNow(x, "empty", CHK_EMPTY, 0);
        x.addStep(START, 0, 0);
        DUE.due("after addStep", x.getCheckStep(), 0);
        x.addStep(EXT, 2, 0);
        dueNow(x, "valid", VALID, -1);
        x.addStep(EXT, 2, 0);
        DUE.due("before the next check", x.getCheckStep(), -1);
        dueNow(x, "extra", CHK_EXTRA, 2);
        x.prove();
        x.adoptProof();
        DUE.due("after adoptProof", x.getCheckStep(), 2);
        dueNow(x, "adopted", VALID, -1);
    }

    private static void nothingElse() {
        DUE.sentence("16 nothing else changes: steps, bindings, the sealed flag, clauses and the kept proof stay");
        for (State state : State.values()) {
            Seen.same(DUE, state, "check", ConnectionProver::check,
                    EnumSet.complementOf(EnumSet.of(Seen.Part.CHECK_STEP)));
            ConnectionProver x = state.make();
            int answer = x.check();
            int step = x.getCheckStep();
            dueNow(x, state + " again", answer, step);
        }
    }

    private static void sound() {
        DUE.sentence("16 whenever check() answers VALID, prove() made next answers PROVED or ERR_TOO_BIG");
        int valid = 0;
        for (State state : State.values()) {
            ConnectionProver x = state.make();
            if (x.check() == VALID) {
                valid++;
                DUE.due(state + ": prove", x.prove(), state == State.TOO_BIG
                        ? ConnectionProver.ERR_TOO_BIG : ConnectionProver.PROVED);
            }
        }
        DUE.due("valid states", valid >= 6, true);
        ConnectionProver x = Entry.of("p(X0,X1) | q(X0); ; r(c0,c1)");
        due(x, VALID, -1, START, 1, 0);
        DUE.due("an empty clause of too many atoms", x.prove(), ConnectionProver.ERR_TOO_BIG);
        x = Entry.of("p(X0); -p(X1)");
        x.bind(0, 2, 1, 3);
        dueBound(x, VALID, -1, START, 0, 0, EXT, 1, 0);
        DUE.due("without a constant", x.prove(), ConnectionProver.PROVED);
        x = Entry.of("p(c0); -p(c1)");
        due(x, CHK_ARGS, 1, START, 0, 0, EXT, 1, 0);
        DUE.due("of satisfiable clauses", x.prove(), ConnectionProver.NOT_PROVED);
    }

    private static void checkStepBefore() {
        DUE.sentence("16 getCheckStep() answers -1 before any check; nothing changes");
        DUE.due("fresh", new ConnectionProver().getCheckStep(), -1);
        ConnectionProver x = Entry.of("p; -p");
        x.addStep(START, 0, 0);
        x.bind(0, 2, 0, 0);
        x.prove();
        x.adoptProof();
        x.clearProof();
        x.endClause();
        x.clearClauses();
        DUE.due("after all other calls", x.getCheckStep(), -1);
        for (State state : State.values()) {
            Seen.same(DUE, state, "getCheckStep", ConnectionProver::getCheckStep, Seen.ALL);
        }
    }
}
