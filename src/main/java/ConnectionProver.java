/**
 * Holds function-free first-order clauses, decides whether they are unsatisfiable, keeps a
 * connection proof of that, and checks the connection proof written in its buffer.
 */
public final class ConnectionProver {
    public static final int T_NONE = -1;
    public static final int T_C0 = 0;
    public static final int T_C1 = 1;
    public static final int T_X0 = 2;
    public static final int T_X1 = 3;
    public static final int STEP_START = 0;
    public static final int STEP_EXT = 1;
    public static final int STEP_RED = 2;
    public static final int MAX_CLAUSES = 8;
    public static final int MAX_CLAUSE_LITS = 3;
    public static final int MAX_LITS = 16;
    public static final int MAX_GROUND = 5;
    public static final int MAX_STEPS = 256;
    public static final int OK = 0;
    public static final int ERR_ARG = -1;
    public static final int ERR_FULL = -2;
    public static final int ERR_ARITY = -3;
    public static final int ERR_TOO_BIG = -4;
    public static final int ERR_SEALED = -5;
    public static final int ERR_NO_PROOF = -6;
    public static final int PROVED = 1;
    public static final int NOT_PROVED = 2;
    public static final int VALID = 0;
    public static final int CHK_EMPTY = -10;
    public static final int CHK_START = -11;
    public static final int CHK_CLAUSE = -12;
    public static final int CHK_LIT = -13;
    public static final int CHK_PATH = -14;
    public static final int CHK_COMPLEMENT = -15;
    public static final int CHK_ARGS = -16;
    public static final int CHK_CYCLE = -17;
    public static final int CHK_EXTRA = -18;
    public static final int CHK_OPEN = -19;

    private static final int NONE = -1;
    private static final int PREDICATES = 4;

    // One more than MAX_CLAUSES: the pending literals have a start too.
    private static final int CLAUSE_STARTS = 9;

    // The term (q, Xv) has the number 2 * q + v, which leaves 0 and 1 to the constants.
    private static final int TERMS = 514;
    private static final int MAX_MOVES = 512;

    // The first step opens three goals at most, and each of 255 later ones adds one at most.
    private static final int MAX_OPEN = 258;

    // Instance 4 * c + 2 * x + y is clause c with X0 read as constant x and X1 as constant y;
    // a set of instances is then the bits of one int.
    private static final int CLAUSE_INSTANCES = 4;
    private static final int INSTANCES = 32;
    private static final int INSTANCE_LITS = 96;

    // The ground literal 2 * atom + sign; its complement differs in the last bit alone.
    private static final int GROUND_LITS = 10;

    // Five ground atoms have 32 interpretations, so the interpretations in which something
    // holds are the bits of one int, too.
    private static final int INTERPRETATIONS = 32;
    private static final int EVERYWHERE = -1;

    // Literals in order of adding: those of clause c begin at clauseStart[c], and the pending
    // ones at clauseStart[clauseCount]; clauseStart[0] stays 0.
    private final int[] litSign = new int[MAX_LITS];
    private final int[] litPred = new int[MAX_LITS];
    private final int[] litArg0 = new int[MAX_LITS];
    private final int[] litArg1 = new int[MAX_LITS];
    private final int[] clauseStart = new int[CLAUSE_STARTS];
    private final int[] predArity = new int[PREDICATES];
    private int litCount;
    private int clauseCount;

    // The buffer. A term that is bound to nothing has itself as its binding.
    private final int[] stepKind = new int[MAX_STEPS];
    private final int[] stepA = new int[MAX_STEPS];
    private final int[] stepB = new int[MAX_STEPS];
    private final int[] binding = new int[TERMS];
    private int stepCount;
    private boolean bufferSealed;

    private int lastCheckStep;

    // The kept proof. Its bindings are those that make copy i the instance keptInstance[i].
    private final int[] keptKind = new int[MAX_STEPS];
    private final int[] keptA = new int[MAX_STEPS];
    private final int[] keptB = new int[MAX_STEPS];
    private final int[] keptInstance = new int[MAX_STEPS];
    private int keptCount;
    private boolean proofKept;

    // The goals of the check or the proof under way. All goals of copy i have the same path: the
    // path of the goal that step i extended, then that goal itself, which is remembered here.
    // Those of copy 0 have the empty path, so pathLength[0] stays 0.
    private final int[] openCopy = new int[MAX_OPEN];
    private final int[] openLit = new int[MAX_OPEN];
    private final int[] parentCopy = new int[MAX_STEPS];
    private final int[] parentLit = new int[MAX_STEPS];
    private final int[] pathLength = new int[MAX_STEPS];
    private int openCount;

    // The ground instances of the finished clauses, made anew by each proof search.
    private final int[] atomBase = new int[PREDICATES];
    private final int[] instanceLits = new int[INSTANCE_LITS];
    private final int[] instanceHolds = new int[INSTANCES];
    private final int[] literalHolds = new int[GROUND_LITS];
    private int universeSize;

    // The sets of writeProof: for the goals of each copy, and for the goal in hand.
    private final int[] restInstances = new int[MAX_STEPS];
    private final int[] pathLiterals = new int[MAX_STEPS];
    private int neededInstances;
    private int givenLiterals;

    public ConnectionProver() {
        lastCheckStep = NONE;
        tabulateLiterals();
        emptyBuffer();
        removeClauses();
    }

    public int addLiteral(int sign, int pred, int arg0, int arg1) {
        if (sign < 0 || sign > 1 || pred < 0 || pred >= PREDICATES) {
            return ERR_ARG;
        }
        if (arg0 < T_NONE || arg0 > T_X1 || arg1 < T_NONE || arg1 > T_X1) {
            return ERR_ARG;
        }
        if (arg0 == T_NONE && arg1 != T_NONE) {
            return ERR_ARG;
        }
        if (clauseCount >= MAX_CLAUSES) {
            return ERR_FULL;
        }
        if (litCount - clauseStart[clauseCount] >= MAX_CLAUSE_LITS || litCount >= MAX_LITS) {
            return ERR_FULL;
        }
        int arity = arityOf(arg0, arg1);
        if (predArity[pred] != NONE && predArity[pred] != arity) {
            return ERR_ARITY;
        }
        predArity[pred] = arity;
        litSign[litCount] = sign;
        litPred[litCount] = pred;
        litArg0[litCount] = arg0;
        litArg1[litCount] = arg1;
        litCount++;
        return OK;
    }

    public int endClause() {
        if (clauseCount >= MAX_CLAUSES) {
            return ERR_FULL;
        }
        clauseCount++;
        clauseStart[clauseCount] = litCount;
        forgetProofs();
        return clauseCount - 1;
    }

    public void clearClauses() {
        removeClauses();
        forgetProofs();
    }

    public int getClauseCount() {
        return clauseCount;
    }

    public int getClauseLength(int c) {
        if (c < 0 || c > clauseCount) {
            return -1;
        }
        if (c == clauseCount) {
            return litCount - clauseStart[c];
        }
        return clauseStart[c + 1] - clauseStart[c];
    }

    public int getLiteral(int c, int i) {
        if (i < 0 || i >= getClauseLength(c)) {
            return -1;
        }
        int lit = clauseStart[c] + i;
        return litSign[lit] * 1000 + litPred[lit] * 100 + (litArg0[lit] + 1) * 10 + litArg1[lit] + 1;
    }

    public int getGroundAtoms() {
        int constants = universe();
        int size = sizeOf(constants);
        int atoms = 0;
        for (int pred = 0; pred < PREDICATES; pred++) {
            atoms += atomsOf(pred, size);
        }
        return atoms;
    }

    public int prove() {
        if (getGroundAtoms() > MAX_GROUND) {
            return ERR_TOO_BIG;
        }
        neededInstances = makeInstances();
        givenLiterals = 0;
        proofKept = whereHold(neededInstances) == 0;
        if (!proofKept) {
            return NOT_PROVED;
        }
        writeProof();
        return PROVED;
    }

    public boolean hasProof() {
        return proofKept;
    }

    public int adoptProof() {
        if (!proofKept) {
            return ERR_NO_PROOF;
        }
        emptyBuffer();
        for (int step = 0; step < keptCount; step++) {
            stepKind[step] = keptKind[step];
            stepA[step] = keptA[step];
            stepB[step] = keptB[step];
            if (keptKind[step] != STEP_RED) {
                binding[2 * step + T_X0] = valueIn(keptInstance[step], T_X0);
                binding[2 * step + T_X1] = valueIn(keptInstance[step], T_X1);
            }
        }
        stepCount = keptCount;
        bufferSealed = true;
        return OK;
    }

    public void clearProof() {
        emptyBuffer();
    }

    public boolean isSealed() {
        return bufferSealed;
    }

    public int addStep(int kind, int a, int b) {
        if (bufferSealed) {
            return ERR_SEALED;
        }
        if (kind < STEP_START || kind > STEP_RED) {
            return ERR_ARG;
        }
        if (stepCount >= MAX_STEPS) {
            return ERR_FULL;
        }
        stepKind[stepCount] = kind;
        stepA[stepCount] = a;
        stepB[stepCount] = b;
        stepCount++;
        return stepCount - 1;
    }

    public int bind(int copy, int var, int tcopy, int tterm) {
        if (bufferSealed) {
            return ERR_SEALED;
        }
        if (copy < 0 || copy >= MAX_STEPS || var < T_X0 || var > T_X1) {
            return ERR_ARG;
        }
        if (tterm < T_C0 || tterm > T_X1) {
            return ERR_ARG;
        }
        if (tterm >= T_X0 && (tcopy < 0 || tcopy >= MAX_STEPS)) {
            return ERR_ARG;
        }
        binding[2 * copy + var] = termOf(tcopy, tterm);
        return OK;
    }

    public int check() {
        lastCheckStep = 0;
        int verdict = judgeStart();
        for (int step = 1; step < stepCount && verdict == VALID; step++) {
            lastCheckStep = step;
            verdict = judgeStep(step);
        }
        if (verdict != VALID) {
            return verdict;
        }
        if (openCount > 0) {
            lastCheckStep = stepCount;
            return CHK_OPEN;
        }
        lastCheckStep = NONE;
        return VALID;
    }

    public int getCheckStep() {
        return lastCheckStep;
    }

    // ---- clauses ----

    private void removeClauses() {
        clauseCount = 0;
        litCount = 0;
        for (int pred = 0; pred < PREDICATES; pred++) {
            predArity[pred] = NONE;
        }
    }

    // The kept proof, and the copy of it in a sealed buffer, were of the clauses before a change.
    private void forgetProofs() {
        proofKept = false;
        if (bufferSealed) {
            emptyBuffer();
        }
    }

    private int arityOf(int arg0, int arg1) {
        if (arg0 == T_NONE) {
            return 0;
        }
        return arg1 == T_NONE ? 1 : 2;
    }

    private int argumentOf(int lit, int position) {
        return position == 0 ? litArg0[lit] : litArg1[lit];
    }

    // ---- meaning ----

    // Bit c stands for the constant c.
    private int universe() {
        int constants = 0;
        for (int lit = 0; lit < clauseStart[clauseCount]; lit++) {
            if (litArg0[lit] == T_C0 || litArg1[lit] == T_C0) {
                constants |= 1;
            }
            if (litArg0[lit] == T_C1 || litArg1[lit] == T_C1) {
                constants |= 2;
            }
        }
        return constants == 0 ? 1 : constants;
    }

    private int sizeOf(int constants) {
        return constants == 3 ? 2 : 1;
    }

    private int atomsOf(int pred, int size) {
        boolean occurs = false;
        for (int lit = 0; lit < clauseStart[clauseCount]; lit++) {
            occurs = occurs || litPred[lit] == pred;
        }
        if (!occurs) {
            return 0;
        }
        int atoms = 1;
        for (int position = 0; position < predArity[pred]; position++) {
            atoms *= size;
        }
        return atoms;
    }

    private void tabulateLiterals() {
        for (int atom = 0; atom < MAX_GROUND; atom++) {
            int holds = 0;
            for (int k = 0; k < INTERPRETATIONS; k++) {
                holds |= ((k >> atom) & 1) << k;
            }
            literalHolds[2 * atom] = holds;
            literalHolds[2 * atom + 1] = ~holds;
        }
    }

    // Answers the set of all instances over the universe.
    private int makeInstances() {
        int constants = universe();
        universeSize = sizeOf(constants);
        int atoms = 0;
        for (int pred = 0; pred < PREDICATES; pred++) {
            atomBase[pred] = atoms;
            atoms += atomsOf(pred, universeSize);
        }
        int instances = 0;
        for (int instance = 0; instance < CLAUSE_INSTANCES * clauseCount; instance++) {
            int x0 = valueIn(instance, T_X0);
            int x1 = valueIn(instance, T_X1);
            if (((constants >> x0) & (constants >> x1) & 1) != 0) {
                makeInstance(instance);
                instances |= 1 << instance;
            }
        }
        return instances;
    }

    private void makeInstance(int instance) {
        int clause = instance / CLAUSE_INSTANCES;
        int length = getClauseLength(clause);
        int holds = 0;
        for (int i = 0; i < MAX_CLAUSE_LITS; i++) {
            int literal = NONE;
            if (i < length) {
                literal = groundLiteral(clauseStart[clause] + i, instance);
                holds |= literalHolds[literal];
            }
            instanceLits[MAX_CLAUSE_LITS * instance + i] = literal;
        }
        instanceHolds[instance] = holds;
    }

    private int groundLiteral(int lit, int instance) {
        int pred = litPred[lit];
        int tuple = 0;
        // Over one constant a predicate has one atom, whichever constant that is.
        for (int position = 0; position < predArity[pred] && universeSize == 2; position++) {
            int argument = argumentOf(lit, position);
            tuple = 2 * tuple + valueIn(instance, argument);
        }
        return 2 * (atomBase[pred] + tuple) + litSign[lit];
    }

    private int valueIn(int instance, int argument) {
        if (argument == T_X0) {
            return (instance >> 1) & 1;
        }
        if (argument == T_X1) {
            return instance & 1;
        }
        return argument;
    }

    // The interpretations in which these instances and the given literals hold.
    private int whereHold(int instances) {
        int holds = EVERYWHERE;
        for (int k = 0; k < INSTANCES; k++) {
            if (((instances >> k) & 1) != 0) {
                holds &= instanceHolds[k];
            }
        }
        for (int k = 0; k < GROUND_LITS; k++) {
            if (((givenLiterals >> k) & 1) != 0) {
                holds &= literalHolds[k];
            }
        }
        return holds;
    }

    // ---- goals ----

    // Opens the literals first .. first + length - 1, but not skipped, the smallest on top.
    private void openGoals(int copy, int first, int length, int skipped) {
        for (int i = length - 1; i >= 0; i--) {
            if (first + i != skipped) {
                openCopy[openCount] = copy;
                openLit[openCount] = first + i;
                openCount++;
            }
        }
    }

    private void openRoot(int first, int length) {
        openCount = 0;
        openGoals(0, first, length, NONE);
    }

    private void setParent(int step, int copy, int lit) {
        parentCopy[step] = copy;
        parentLit[step] = lit;
        pathLength[step] = pathLength[copy] + 1;
    }

    // ---- proof search ----

    // The proof is written without ever going back on a step. At each goal the needed instances
    // hold nowhere together with the given literals, which are the path and the goal, and none of
    // them can be left out of that. Take one out to extend by it: then the rest and the given
    // literals hold somewhere, but with any literal K of the one taken out they hold nowhere. So
    // they are remembered with the copy, and for its goal K the rest is thinned again to what is
    // needed. Two things follow. Where all hold but K, turning K true must break something, so
    // the complement of K is on the path or in a needed instance: there is always a next step.
    // And an instance with a given literal holds wherever that literal does, so it is never
    // needed: no path has a literal twice. A path with its goal thus has five literals at most
    // when it is extended, and 1+3+6+12+24+48+96 = 190 steps suffice.
    private void writeProof() {
        keepOnlyNeeded();
        int root = lowestInstance();
        keepCopy(0, STEP_START, root, 0);
        int rootLength = getClauseLength(root / CLAUSE_INSTANCES);
        openRoot(MAX_CLAUSE_LITS * root, rootLength);
        int step = 1;
        for (; step < MAX_STEPS && openCount > 0; step++) {
            openCount--;
            int entry = findOnPath(openCopy[openCount], instanceLits[openLit[openCount]] ^ 1);
            if (entry == NONE) {
                extendGoal(step, openCopy[openCount], openLit[openCount]);
            } else {
                keepReduction(step, entry);
            }
        }
        keptCount = step;
    }

    private void extendGoal(int step, int copy, int lit) {
        int literal = instanceLits[lit];
        neededInstances = restInstances[copy];
        givenLiterals = pathLiterals[copy] | (1 << literal);
        keepOnlyNeeded();
        int partner = findNeeded(literal ^ 1);
        int instance = partner / MAX_CLAUSE_LITS;
        int first = MAX_CLAUSE_LITS * instance;
        keepCopy(step, STEP_EXT, instance, partner - first);
        setParent(step, copy, lit);
        int length = getClauseLength(instance / CLAUSE_INSTANCES);
        openGoals(step, first, length, partner);
    }

    private void keepOnlyNeeded() {
        for (int k = 0; k < INSTANCES; k++) {
            int fewer = neededInstances & ~(1 << k);
            if (whereHold(fewer) == 0) {
                neededInstances = fewer;
            }
        }
    }

    private int lowestInstance() {
        int lowest = 0;
        for (int k = INSTANCES - 1; k >= 0; k--) {
            if (((neededInstances >> k) & 1) != 0) {
                lowest = k;
            }
        }
        return lowest;
    }

    // Answers an index of instanceLits.
    private int findNeeded(int literal) {
        int found = 0;
        for (int k = 0; k < INSTANCE_LITS; k++) {
            boolean needed = ((neededInstances >> (k / MAX_CLAUSE_LITS)) & 1) != 0;
            if (needed && instanceLits[k] == literal) {
                found = k;
            }
        }
        return found;
    }

    private int findOnPath(int copy, int literal) {
        int child = copy;
        int length = pathLength[copy];
        for (int entry = length - 1; entry >= 0; entry--) {
            if (instanceLits[parentLit[child]] == literal) {
                return entry;
            }
            child = parentCopy[child];
        }
        return NONE;
    }

    private void keepCopy(int step, int kind, int instance, int lit) {
        keptKind[step] = kind;
        keptA[step] = instance / CLAUSE_INSTANCES;
        keptB[step] = lit;
        keptInstance[step] = instance;
        restInstances[step] = neededInstances & ~(1 << instance);
        pathLiterals[step] = givenLiterals;
    }

    private void keepReduction(int step, int entry) {
        keptKind[step] = STEP_RED;
        keptA[step] = entry;
        keptB[step] = 0;
    }

    // ---- buffer and check ----

    private void emptyBuffer() {
        stepCount = 0;
        bufferSealed = false;
        for (int term = 0; term < TERMS; term++) {
            binding[term] = term;
        }
    }

    private boolean isClause(int c) {
        return c >= 0 && c < clauseCount;
    }

    private int judgeStart() {
        if (stepCount == 0) {
            return CHK_EMPTY;
        }
        if (stepKind[0] != STEP_START) {
            return CHK_START;
        }
        int clause = stepA[0];
        if (!isClause(clause)) {
            return CHK_CLAUSE;
        }
        int length = getClauseLength(clause);
        openRoot(clauseStart[clause], length);
        return VALID;
    }

    private int judgeStep(int step) {
        if (openCount == 0) {
            return CHK_EXTRA;
        }
        openCount--;
        int copy = openCopy[openCount];
        int lit = openLit[openCount];
        if (stepKind[step] == STEP_START) {
            return CHK_START;
        }
        if (stepKind[step] == STEP_EXT) {
            return judgeExtension(step, copy, lit);
        }
        return judgeReduction(step, copy, lit);
    }

    private int judgeExtension(int step, int copy, int lit) {
        int clause = stepA[step];
        if (!isClause(clause)) {
            return CHK_CLAUSE;
        }
        int length = getClauseLength(clause);
        if (stepB[step] < 0 || stepB[step] >= length) {
            return CHK_LIT;
        }
        int first = clauseStart[clause];
        int partner = first + stepB[step];
        int verdict = judgeConnection(copy, lit, step, partner);
        if (verdict == VALID) {
            setParent(step, copy, lit);
            openGoals(step, first, length, partner);
        }
        return verdict;
    }

    private int judgeReduction(int step, int copy, int lit) {
        int entry = stepA[step];
        if (entry < 0 || entry >= pathLength[copy]) {
            return CHK_PATH;
        }
        int child = copy;
        for (int last = pathLength[copy] - 1; last > entry; last--) {
            child = parentCopy[child];
        }
        return judgeConnection(copy, lit, parentCopy[child], parentLit[child]);
    }

    private int judgeConnection(int copy, int lit, int partnerCopy, int partner) {
        if (litSign[lit] == litSign[partner] || litPred[lit] != litPred[partner]) {
            return CHK_COMPLEMENT;
        }
        int arity = predArity[litPred[lit]];
        for (int position = 0; position < arity; position++) {
            int mine = resolve(copy, lit, position);
            int other = resolve(partnerCopy, partner, position);
            if (mine == NONE || other == NONE) {
                return CHK_CYCLE;
            }
            if (mine != other) {
                return CHK_ARGS;
            }
        }
        return VALID;
    }

    private int termOf(int copy, int code) {
        return code >= T_X0 ? 2 * copy + code : code;
    }

    // Answers NONE for a cycle.
    private int resolve(int copy, int lit, int position) {
        int argument = argumentOf(lit, position);
        int term = termOf(copy, argument);
        for (int moves = 0; moves <= MAX_MOVES; moves++) {
            if (binding[term] == term) {
                return term;
            }
            term = binding[term];
        }
        return NONE;
    }
}
