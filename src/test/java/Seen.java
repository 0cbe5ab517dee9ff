import java.util.ArrayList;
import java.util.EnumSet;
import java.util.List;
import java.util.Set;
import java.util.function.Consumer;
import java.util.function.Supplier;
import java.util.function.ToIntFunction;

/**
 * Tells what a call changed by what the public face shows of an object, part by part; of a binding
 * that is whether it leads to c0, to c1, to no constant or into a cycle. A look may use its object
 * up, so each takes another one in the same state.
 */
final class Seen {
    enum Part { FINISHED, PENDING, ARITIES, KEPT, STEPS, BINDINGS, SEAL, CHECK_STEP }

    static final Set<Part> ALL = EnumSet.allOf(Part.class);
    static final Set<Part> BUFFER = EnumSet.of(Part.STEPS, Part.BINDINGS, Part.SEAL);

    /** The clauses under which the steps of a buffer are looked at; they need no bindings. */
    private static final String[] SETS = {"-p | q; p; q | -q; -q", "-p | q; p; -q; q | -q",
            "-p | q; p; -q | -q; -q", "-p; p | p", "p; -p", "p", ""};

    private Seen() {
    }

    /** A call with this answer, after which nothing has changed. */
    static void refused(Due due, State state, String name, ToIntFunction<ConnectionProver> call, int want) {
        due.due(state + ": " + name, call.applyAsInt(state.make()), want);
        same(due, state, name, call::applyAsInt, ALL);
    }

    /** A call after which these parts are what they were. */
    static void same(Due due, State state, String name, Consumer<ConnectionProver> call, Set<Part> parts) {
        Supplier<ConnectionProver> after = () -> {
            ConnectionProver x = state.make();
            call.accept(x);
            return x;
        };
        for (Part part : parts) {
            boolean same = look(part, after).equals(look(part, state::make));
            due.due(state + ": " + part + " the same after " + name, same, true);
        }
    }

    private static List<Integer> look(Part part, Supplier<ConnectionProver> object) {
        List<Integer> seen = new ArrayList<>();
        switch (part) {
            case FINISHED -> finished(object, seen);
            case PENDING -> clause(object.get(), object.get().getClauseCount(), seen);
            case ARITIES -> arities(object, seen);
            case KEPT -> kept(object, seen);
            case STEPS -> steps(object, seen);
            case BINDINGS -> bindings(object, seen);
            case SEAL -> seen.add(object.get().isSealed() ? 1 : 0);
            case CHECK_STEP -> seen.add(object.get().getCheckStep());
        }
        return seen;
    }

    private static void clause(ConnectionProver x, int c, List<Integer> seen) {
        seen.add(x.getClauseLength(c));
        for (int i = -1; i < 4; i++) {
            seen.add(x.getLiteral(c, i));
        }
    }

    private static void finished(Supplier<ConnectionProver> object, List<Integer> seen) {
        ConnectionProver x = object.get();
        seen.add(x.getClauseCount());
        for (int c = -1; c < x.getClauseCount(); c++) {
            clause(x, c, seen);
        }
        seen.add(x.getGroundAtoms());
        seen.add(x.prove());
    }

    private static void arities(Supplier<ConnectionProver> object, List<Integer> seen) {
        for (int pred = 0; pred < 4; pred++) {
            for (int arity = 0; arity < 3; arity++) {
                ConnectionProver x = object.get();
                if (x.getClauseLength(x.getClauseCount()) == 3) {
                    x.endClause();
                }
                seen.add(x.addLiteral(0, pred, arity > 0 ? 0 : -1, arity > 1 ? 0 : -1));
            }
        }
    }

    private static void kept(Supplier<ConnectionProver> object, List<Integer> seen) {
        ConnectionProver x = object.get();
        seen.add(x.hasProof() ? 1 : 0);
        int answer = x.adoptProof();
        seen.add(answer);
        if (answer == ConnectionProver.OK) {
            check(x, seen);
        }
    }

    private static void check(ConnectionProver x, List<Integer> seen) {
        seen.add(x.check());
        seen.add(x.getCheckStep());
    }

    private static void steps(Supplier<ConnectionProver> object, List<Integer> seen) {
        ConnectionProver x = object.get();
        seen.add(x.addStep(2, 0, 0));
        if (x.isSealed()) {
            check(x, seen);
            return;
        }
        for (String clauses : SETS) {
            x = object.get();
            x.clearClauses();
            Entry.add(x, clauses);
            check(x, seen);
        }
    }

    private static void bindings(Supplier<ConnectionProver> object, List<Integer> seen) {
        if (object.get().isSealed()) {
            check(object.get(), seen);
            return;
        }
        bindings(object, "-p(X0); p(c0)", seen);
        bindings(object, "-p(X0); p(c1)", seen);
    }

    /** For buffers whose first steps are START 0 and EXT 1 0, or to which these can be added. */
    private static void bindings(Supplier<ConnectionProver> object, String clauses, List<Integer> seen) {
        ConnectionProver x = object.get();
        x.clearClauses();
        Entry.add(x, clauses);
        if (x.check() == ConnectionProver.CHK_EMPTY) {
            x.addStep(0, 0, 0);
        }
        if (x.check() == ConnectionProver.CHK_OPEN) {
            x.addStep(1, 1, 0);
        }
        seen.add(resolving(x));
        for (int k = 1; k < 512; k++) {
            x.bind(0, 2, k / 2, 2 + k % 2);
            seen.add(resolving(x));
        }
    }

    /** What came of step 1, whichever steps follow it. */
    private static int resolving(ConnectionProver x) {
        int answer = x.check();
        return x.getCheckStep() == 1 ? answer : ConnectionProver.VALID;
    }

    /**
     * An empty, unsealed buffer with every variable unbound: each is looked at with all others bound
     * to c0, so that it would resolve to a constant, whatever it were bound to.
     */
    static void emptyBuffer(Due due, String when, Supplier<ConnectionProver> object) {
        due.due(when + " isSealed", object.get().isSealed(), false);
        ConnectionProver x = object.get();
        due.due(when + " check", x.check(), ConnectionProver.CHK_EMPTY);
        due.due(when + " getCheckStep", x.getCheckStep(), 0);
        due.due(when + " addStep", x.addStep(0, 0, 0), 0);
        for (int k = 0; k < 512; k++) {
            x = object.get();
            x.clearClauses();
            Entry.add(x, "-p(X0); p(c0)");
            x.addStep(0, 0, 0);
            x.addStep(1, 1, 0);
            for (int other = 0; other < 512; other++) {
                if (other != k) {
                    x.bind(other / 2, 2 + other % 2, 0, 0);
                }
            }
            if (k != 0) {
                x.bind(0, 2, k / 2, 2 + k % 2);
            }
            due.due(when + " variable " + k / 2 + " X" + k % 2, x.check(), ConnectionProver.CHK_ARGS);
            x.bind(k / 2, 2 + k % 2, 0, 0);
            due.due(when + " bound then", x.check(), ConnectionProver.VALID);
        }
    }
}
