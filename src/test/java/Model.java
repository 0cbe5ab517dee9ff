import java.util.ArrayList;
import java.util.HashMap;
import java.util.LinkedHashSet;
import java.util.List;
import java.util.Map;
import java.util.Set;

/**
 * The document written down a second time, with lists and maps. Which proof is kept is free, so a
 * sealed buffer is known here only by what must hold of it: it checks as VALID.
 */
final class Model {
    /** A literal of a copy, and as a goal also its path. */
    record Goal(int copy, int[] literal, List<Goal> path) {
    }

    final List<List<int[]>> clauses = new ArrayList<>();
    List<int[]> pending = new ArrayList<>();
    final Map<Integer, Integer> arities = new HashMap<>();
    boolean kept = false;
    boolean sealed = false;
    List<int[]> steps = new ArrayList<>();
    Map<List<Integer>, List<Integer>> bindings = new HashMap<>();
    int checkStep = -1;

    /** What the last check left open, the top last. */
    List<Goal> open = new ArrayList<>();

    int addLiteral(int sign, int pred, int arg0, int arg1) {
        boolean args = arg0 >= -1 && arg0 <= 3 && arg1 >= -1 && arg1 <= 3 && (arg0 != -1 || arg1 == -1);
        if (sign != 0 && sign != 1 || pred < 0 || pred > 3 || !args) {
            return ConnectionProver.ERR_ARG;
        }
        int literals = pending.size() + clauses.stream().mapToInt(List::size).sum();
        if (clauses.size() == 8 || pending.size() == 3 || literals == 16) {
            return ConnectionProver.ERR_FULL;
        }
        int arity = (arg0 == -1 ? 0 : 1) + (arg1 == -1 ? 0 : 1);
        if (arities.getOrDefault(pred, arity) != arity) {
            return ConnectionProver.ERR_ARITY;
        }
        arities.put(pred, arity);
        pending.add(new int[] {sign, pred, arg0, arg1});
        return ConnectionProver.OK;
    }

    int endClause() {
        if (clauses.size() == 8) {
            return ConnectionProver.ERR_FULL;
        }
        clauses.add(pending);
        pending = new ArrayList<>();
        changeClauses();
        return clauses.size() - 1;
    }

    void clearClauses() {
        clauses.clear();
        pending.clear();
        arities.clear();
        changeClauses();
    }

    private void changeClauses() {
        kept = false;
        if (sealed) {
            clearProof();
        }
    }

    List<int[]> clause(int c) {
        if (c < 0 || c > clauses.size()) {
            return null;
        }
        return c == clauses.size() ? pending : clauses.get(c);
    }

    int getClauseLength(int c) {
        return clause(c) == null ? -1 : clause(c).size();
    }

    int getLiteral(int c, int i) {
        if (i < 0 || i >= getClauseLength(c)) {
            return -1;
        }
        int[] l = clause(c).get(i);
        return l[0] * 1000 + l[1] * 100 + (l[2] + 1) * 10 + l[3] + 1;
    }

    private List<Integer> universe() {
        List<Integer> all = new ArrayList<>();
        for (int constant = 0; constant < 2; constant++) {
            for (List<int[]> clause : clauses) {
                for (int[] l : clause) {
                    if ((l[2] == constant || l[3] == constant) && !all.contains(constant)) {
                        all.add(constant);
                    }
                }
            }
        }
        return all.isEmpty() ? List.of(0) : all;
    }

    /** The ground atoms, each as a list of the predicate and the arguments. */
    private Set<List<Integer>> groundAtoms() {
        Set<List<Integer>> atoms = new LinkedHashSet<>();
        List<Integer> none = List.of(-1);
        for (List<int[]> clause : clauses) {
            for (int[] l : clause) {
                for (int a : l[2] == -1 ? none : universe()) {
                    for (int b : l[3] == -1 ? none : universe()) {
                        atoms.add(List.of(l[1], a, b));
                    }
                }
            }
        }
        return atoms;
    }

    int getGroundAtoms() {
        return groundAtoms().size();
    }

    private static int valueOf(int term, int x0, int x1) {
        return term == 2 ? x0 : term == 3 ? x1 : term;
    }

    private boolean holds(List<int[]> clause, Set<List<Integer>> trueAtoms) {
        for (int x0 : universe()) {
            for (int x1 : universe()) {
                boolean some = false;
                for (int[] l : clause) {
                    List<Integer> atom = List.of(l[1], valueOf(l[2], x0, x1), valueOf(l[3], x0, x1));
                    some |= trueAtoms.contains(atom) == (l[0] == 0);
                }
                if (!some) {
                    return false;
                }
            }
        }
        return true;
    }

    boolean unsatisfiable() {
        List<List<Integer>> atoms = new ArrayList<>(groundAtoms());
        for (int k = 0; k < 1 << atoms.size(); k++) {
            Set<List<Integer>> trueAtoms = new LinkedHashSet<>();
            for (int a = 0; a < atoms.size(); a++) {
                if ((k >> a & 1) == 1) {
                    trueAtoms.add(atoms.get(a));
                }
            }
            if (clauses.stream().allMatch(clause -> holds(clause, trueAtoms))) {
                return false;
            }
        }
        return true;
    }

    int prove() {
        if (getGroundAtoms() > 5) {
            return ConnectionProver.ERR_TOO_BIG;
        }
        kept = unsatisfiable();
        return kept ? ConnectionProver.PROVED : ConnectionProver.NOT_PROVED;
    }

    int adoptProof() {
        if (!kept) {
            return ConnectionProver.ERR_NO_PROOF;
        }
        sealed = true;
        return ConnectionProver.OK;
    }

    void clearProof() {
        sealed = false;
        steps = new ArrayList<>();
        bindings = new HashMap<>();
    }

    int addStep(int kind, int a, int b) {
        if (sealed) {
            return ConnectionProver.ERR_SEALED;
        }
        if (kind < 0 || kind > 2) {
            return ConnectionProver.ERR_ARG;
        }
        if (steps.size() == 256) {
            return ConnectionProver.ERR_FULL;
        }
        steps.add(new int[] {kind, a, b});
        return steps.size() - 1;
    }

    int bind(int copy, int var, int tcopy, int tterm) {
        if (sealed) {
            return ConnectionProver.ERR_SEALED;
        }
        boolean variable = tterm == 2 || tterm == 3;
        if (copy < 0 || copy > 255 || var != 2 && var != 3 || tterm < 0 || tterm > 3
                || variable && (tcopy < 0 || tcopy > 255)) {
            return ConnectionProver.ERR_ARG;
        }
        bindings.remove(List.of(copy, var));
        if (!variable) {
            bindings.put(List.of(copy, var), List.of(tterm));
        } else if (tcopy != copy || tterm != var) {
            bindings.put(List.of(copy, var), List.of(tcopy, tterm));
        }
        return ConnectionProver.OK;
    }

    /** Answers a constant as a list of one number, a variable as one of two, a cycle as null. */
    List<Integer> resolve(int copy, int term) {
        List<Integer> cur = term < 2 ? List.of(term) : List.of(copy, term);
        Set<List<Integer>> met = new LinkedHashSet<>();
        while (bindings.containsKey(cur)) {
            if (!met.add(cur)) {
                return null;
            }
            cur = bindings.get(cur);
        }
        return cur;
    }

    int check() {
        open = new ArrayList<>();
        if (sealed) {
            checkStep = -1;
            return ConnectionProver.VALID;
        }
        checkStep = 0;
        if (steps.isEmpty()) {
            return ConnectionProver.CHK_EMPTY;
        }
        for (int i = 0; i < steps.size(); i++) {
            checkStep = i;
            int code = i == 0 ? checkFirst(steps.get(0)) : checkStep(i, steps.get(i));
            if (code != ConnectionProver.VALID) {
                return code;
            }
        }
        checkStep = open.isEmpty() ? -1 : steps.size();
        return open.isEmpty() ? ConnectionProver.VALID : ConnectionProver.CHK_OPEN;
    }

    private int checkFirst(int[] step) {
        if (step[0] != ConnectionProver.STEP_START) {
            return ConnectionProver.CHK_START;
        }
        if (step[1] < 0 || step[1] >= clauses.size()) {
            return ConnectionProver.CHK_CLAUSE;
        }
        push(0, step[1], -1, List.of());
        return ConnectionProver.VALID;
    }

    private void push(int copy, int clause, int but, List<Goal> path) {
        for (int l = clauses.get(clause).size() - 1; l >= 0; l--) {
            if (l != but) {
                open.add(new Goal(copy, clauses.get(clause).get(l), path));
            }
        }
    }

    private int checkStep(int i, int[] step) {
        if (open.isEmpty()) {
            return ConnectionProver.CHK_EXTRA;
        }
        Goal g = open.remove(open.size() - 1);
        int a = step[1];
        Goal partner;
        if (step[0] == ConnectionProver.STEP_START) {
            return ConnectionProver.CHK_START;
        } else if (step[0] == ConnectionProver.STEP_EXT) {
            if (a < 0 || a >= clauses.size()) {
                return ConnectionProver.CHK_CLAUSE;
            }
            if (step[2] < 0 || step[2] >= clauses.get(a).size()) {
                return ConnectionProver.CHK_LIT;
            }
            partner = new Goal(i, clauses.get(a).get(step[2]), null);
        } else {
            if (a < 0 || a >= g.path.size()) {
                return ConnectionProver.CHK_PATH;
            }
            partner = g.path.get(a);
        }
        int code = connect(g, partner);
        if (code == ConnectionProver.VALID && step[0] == ConnectionProver.STEP_EXT) {
            List<Goal> path = new ArrayList<>(g.path);
            path.add(g);
            push(i, a, step[2], path);
        }
        return code;
    }

    private int connect(Goal g, Goal partner) {
        if (g.literal[0] == partner.literal[0] || g.literal[1] != partner.literal[1]) {
            return ConnectionProver.CHK_COMPLEMENT;
        }
        for (int p = 2; p < 4 && g.literal[p] != -1; p++) {
            List<Integer> mine = resolve(g.copy, g.literal[p]);
            List<Integer> other = resolve(partner.copy, partner.literal[p]);
            if (mine == null || other == null) {
                return ConnectionProver.CHK_CYCLE;
            }
            if (!mine.equals(other)) {
                return ConnectionProver.CHK_ARGS;
            }
        }
        return ConnectionProver.VALID;
    }
}
