import java.util.List;

/**
 * All promises at once: long runs of drawn calls on an object and on the model of the document, with
 * everything that can be read of the object compared after each call.
 */
public final class RunsTest {
    private static final Due DUE = new Due();
    private static final int[] ODD = {-2, -1, 0, 1, 2, 3, 4, 5, 7, 8, 9, 16, 255, 256, 257,
            Integer.MIN_VALUE, Integer.MAX_VALUE};

    private final Numbers draw;
    private final ConnectionProver x = new ConnectionProver();
    private final Model model = new Model();

    /** In some runs one constant or no variable, or few predicates, so that proofs are met. */
    private final int constants;
    private final int predicates;
    private final String name;

    private RunsTest(int seed) {
        draw = new Numbers(seed);
        constants = draw.between(1, 2);
        predicates = draw.between(1, 4);
        name = "run " + seed + ": ";
    }

    public static void main(String[] args) {
        for (int seed = 0; seed < 3000; seed++) {
            RunsTest run = new RunsTest(seed);
            run.compare("new");
            for (int call = 0; call < 250; call++) {
                run.compare(run.call());
            }
        }
        DUE.finish();
    }

    private String call() {
        int choice = draw.below(100);
        if (choice < 20) {
            return literal();
        } else if (choice < 30) {
            return due("endClause", x.endClause(), model.endClause());
        } else if (choice < 31) {
            x.clearClauses();
            model.clearClauses();
            return "clearClauses";
        } else if (choice < 37) {
            return due("prove", x.prove(), model.prove());
        } else if (choice < 39) {
            return due("adoptProof", x.adoptProof(), model.adoptProof());
        } else if (choice < 43) {
            x.clearProof();
            model.clearProof();
            return "clearProof";
        } else if (choice < 52) {
            return check();
        } else if (choice < 55) {
            return step(pick(-1, 3), pick(-1, 8), pick(-1, 3));
        } else if (choice < 58) {
            return bind(pick(0, 5), pick(2, 3), pick(0, 5), pick(0, 3));
        }
        return goodStep();
    }

    private int pick(int low, int high) {
        return draw.oneIn(12) ? ODD[draw.below(ODD.length)] : draw.between(low, high);
    }

    private String due(String call, int got, int want) {
        DUE.due(name + call, got, want);
        return call;
    }

    private String literal() {
        if (draw.oneIn(10)) {
            return addLiteral(pick(0, 1), pick(0, 3), pick(-1, 3), pick(-1, 3));
        }
        int pred = draw.below(predicates);
        int arity = model.arities.getOrDefault(pred, draw.below(3));
        return addLiteral(draw.below(2), pred, arity > 0 ? term() : -1, arity > 1 ? term() : -1);
    }

    private int term() {
        int term = draw.below(2 + constants);
        return term < constants ? term : 2 + term - constants;
    }

    private String addLiteral(int sign, int pred, int arg0, int arg1) {
        return due("addLiteral(" + sign + ", " + pred + ", " + arg0 + ", " + arg1 + ")",
                x.addLiteral(sign, pred, arg0, arg1), model.addLiteral(sign, pred, arg0, arg1));
    }

    private String step(int kind, int a, int b) {
        return due("addStep(" + kind + ", " + a + ", " + b + ")",
                x.addStep(kind, a, b), model.addStep(kind, a, b));
    }

    private String bind(int copy, int var, int tcopy, int tterm) {
        return due("bind(" + copy + ", " + var + ", " + tcopy + ", " + tterm + ")",
                x.bind(copy, var, tcopy, tterm), model.bind(copy, var, tcopy, tterm));
    }

    private String check() {
        int want = model.check();
        due("check", x.check(), want);
        if (want == ConnectionProver.VALID && model.getGroundAtoms() <= 5) {
            compare("check");
            due("prove after VALID", model.prove(), ConnectionProver.PROVED);
            due("prove after VALID", x.prove(), ConnectionProver.PROVED);
        }
        return "check";
    }

    /** Adds a step that the check may accept, with the bindings for it. */
    private String goodStep() {
        if (model.sealed || model.clauses.isEmpty()) {
            return "nothing";
        }
        int before = model.check();
        due("check", x.check(), before);
        if (before != ConnectionProver.CHK_OPEN || model.steps.size() == 256) {
            x.clearProof();
            model.clearProof();
            return step(0, draw.below(model.clauses.size()), 0);
        }
        Model.Goal goal = model.open.get(model.open.size() - 1);
        for (int entry = 0; entry < goal.path().size(); entry++) {
            Model.Goal other = goal.path().get(entry);
            if (complementary(goal.literal(), other.literal()) && draw.oneIn(2)) {
                unify(goal, other);
                return step(2, entry, draw.between(-1, 3));
            }
        }
        int from = draw.below(model.clauses.size());
        for (int k = 0; k < model.clauses.size(); k++) {
            int c = (from + k) % model.clauses.size();
            for (int b = 0; b < model.clauses.get(c).size(); b++) {
                int[] literal = model.clauses.get(c).get(b);
                if (complementary(goal.literal(), literal) && !draw.oneIn(4)) {
                    unify(goal, new Model.Goal(model.steps.size(), literal, null));
                    return step(1, c, b);
                }
            }
        }
        return "nothing";
    }

    private static boolean complementary(int[] one, int[] other) {
        return one[0] != other[0] && one[1] == other[1];
    }

    private void unify(Model.Goal one, Model.Goal other) {
        for (int p = 2; p < 4 && one.literal()[p] != -1; p++) {
            List<Integer> mine = model.resolve(one.copy(), one.literal()[p]);
            List<Integer> its = model.resolve(other.copy(), other.literal()[p]);
            if (mine == null || its == null || mine.equals(its) || draw.oneIn(20)) {
                continue;
            }
            if (mine.size() == 2) {
                bindTo(mine, its);
            } else if (its.size() == 2) {
                bindTo(its, mine);
            }
        }
    }

    private void bindTo(List<Integer> variable, List<Integer> term) {
        boolean constant = term.size() == 1;
        bind(variable.get(0), variable.get(1), constant ? pick(0, 255) : term.get(0),
                term.get(constant ? 0 : 1));
    }

    private void compare(String after) {
        String call = name + "after " + after + " ";
        DUE.due(call + "getClauseCount", x.getClauseCount(), model.clauses.size());
        DUE.due(call + "getGroundAtoms", x.getGroundAtoms(), model.getGroundAtoms());
        DUE.due(call + "hasProof", x.hasProof(), model.kept);
        DUE.due(call + "isSealed", x.isSealed(), model.sealed);
        DUE.due(call + "getCheckStep", x.getCheckStep(), model.checkStep);
        for (int c = -1; c < 11; c++) {
            DUE.due(call + "getClauseLength " + c, x.getClauseLength(c), model.getClauseLength(c));
            for (int i = -1; i < 5; i++) {
                DUE.due(call + "getLiteral " + c + " " + i, x.getLiteral(c, i), model.getLiteral(c, i));
            }
        }
    }
}
