/**
 * Enters clauses that are written as text: clauses are parted by ';' and literals by '|'. A literal
 * is one of the predicates p, q, r, s, with '-' before it if it is negative and with its arguments
 * c0, c1, X0, X1 behind it, as in "p(c0); -p(X0) | q(X0,X1)". A clause of blanks is empty.
 */
final class Entry {
    private Entry() {
    }

    static ConnectionProver of(String text) {
        ConnectionProver prover = new ConnectionProver();
        add(prover, text);
        return prover;
    }

    static void add(ConnectionProver prover, String text) {
        for (String clause : text.split(";", -1)) {
            pend(prover, clause);
            accept(prover.endClause() >= 0, clause);
        }
    }

    /** Adds the literals of one clause and does not end it. */
    static void pend(ConnectionProver prover, String clause) {
        if (clause.isBlank()) {
            return;
        }
        for (String literal : clause.split("\\|")) {
            int[] l = literal(literal.trim());
            accept(prover.addLiteral(l[0], l[1], l[2], l[3]) == ConnectionProver.OK, clause);
        }
    }

    private static int[] literal(String text) {
        int sign = text.startsWith("-") ? 1 : 0;
        int pred = "pqrs".indexOf(text.charAt(sign));
        int[] literal = {sign, pred, -1, -1};
        int bracket = text.indexOf('(');
        if (bracket >= 0) {
            String[] terms = text.substring(bracket + 1, text.indexOf(')')).split(",");
            for (int i = 0; i < terms.length; i++) {
                literal[2 + i] = java.util.List.of("c0", "c1", "X0", "X1").indexOf(terms[i].trim());
            }
        }
        return literal;
    }

    private static void accept(boolean accepted, String clause) {
        if (!accepted) {
            throw new IllegalStateException("the test's clause " + clause + " was refused");
        }
    }
}
