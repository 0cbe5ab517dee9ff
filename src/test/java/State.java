/** States that differ in what a refused call may answer and in what it may wrongly change. */
enum State {
    FRESH,
    /** Unsatisfiable clauses, two pending literals, a kept proof and a buffer with another proof. */
    WRITTEN,
    /** As WRITTEN, but with the kept proof adopted. */
    SEALED,
    /** No proof is kept, and the buffer holds an open one. */
    UNPROVED,
    /** Six ground atoms, two pending literals, and a valid proof in the buffer. */
    TOO_BIG,
    /** 256 steps that are a valid proof; a proof is kept too. */
    ALL_STEPS,
    /** Three pending literals. */
    ALL_PENDING,
    /** Sixteen literals, one of them pending. */
    ALL_LITERALS,
    /** Eight satisfiable clauses of fewer than sixteen literals, and steps that fail in the buffer. */
    ALL_CLAUSES,
    /** Eight clauses of sixteen literals with a kept proof, and another proof in the buffer. */
    ALL_WRITTEN,
    /** As ALL_WRITTEN, but with the kept proof adopted. */
    ALL_SEALED;

    static final String BASE = "-p(X0) | q; p(c0); q | -q; -q";

    /** Another object in this state with every call. */
    ConnectionProver make() {
        ConnectionProver x = new ConnectionProver();
        switch (this) {
            case FRESH -> { }
            case WRITTEN -> writtenWithPending(x);
            case SEALED -> {
                writtenWithPending(x);
                x.adoptProof();
            }
            case UNPROVED -> {
                Entry.add(x, "-p(X0) | q; p(c0)");
                x.prove();
                start(x);
                x.bind(0, 2, 0, 0);
                x.check();
            }
            case TOO_BIG -> {
                Entry.add(x, "-p(X0,X1); p(c0,c1); q; r");
                Entry.pend(x, "s(c0) | -r");
                start(x);
                x.check();
                x.bind(0, 2, 0, 0);
                x.bind(0, 3, 0, 1);
            }
            case ALL_STEPS -> {
                Entry.add(x, BASE);
                x.prove();
                allSteps(x);
            }
            case ALL_PENDING -> {
                Entry.add(x, BASE);
                Entry.pend(x, "-p(c1) | r | r");
                x.prove();
                written(x);
            }
            case ALL_LITERALS -> {
                Entry.add(x, BASE + "; r|r|r; r|r|r; r|r|r");
                Entry.pend(x, "r");
                x.prove();
                written(x);
            }
            case ALL_CLAUSES -> {
                Entry.add(x, "-p(X0) | q; p(c0); r(c0,c0); r(X0,X1); q | -q; r(X1,X1); r(c0,X1); -p(c0) | q");
                x.prove();
                written(x);
            }
            case ALL_WRITTEN -> {
                Entry.add(x, BASE + "; r|r|r; r|r|r; r|r|r; r");
                x.prove();
                written(x);
            }
            case ALL_SEALED -> {
                Entry.add(x, BASE + "; r|r|r; r|r|r; r|r|r; r");
                x.prove();
                written(x);
                x.adoptProof();
            }
        }
        return x;
    }

    private static void writtenWithPending(ConnectionProver x) {
        Entry.add(x, BASE);
        Entry.pend(x, "r(X1,c1) | s(X0)");
        x.prove();
        written(x);
    }

    private static void start(ConnectionProver x) {
        x.addStep(0, 0, 0);
        x.addStep(1, 1, 0);
    }

    /** A proof from BASE, after a check that failed at step 1, with bindings besides those it needs. */
    private static void written(ConnectionProver x) {
        start(x);
        x.check();
        x.addStep(1, 2, 1);
        x.addStep(1, 3, 0);
        x.bind(0, 2, 7, 3);
        x.bind(7, 3, 0, 0);
        x.bind(100, 2, 0, 1);
        x.bind(254, 2, 255, 3);
        x.bind(255, 3, 254, 2);
    }

    private static void allSteps(ConnectionProver x) {
        start(x);
        x.bind(0, 2, 255, 3);
        x.bind(255, 3, 0, 0);
        for (int i = 2; i < 255; i++) {
            x.addStep(1, 2, 1);
        }
        x.check();
        x.addStep(1, 3, 0);
    }
}
