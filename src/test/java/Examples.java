import java.util.Arrays;

/** Objects that stand right before a limit, for the tests of limits. */
final class Examples {
    private Examples() {
    }

    /** An object that has so many pairs, the last of them (h+1) when there are 30. */
    static Bench pairs(int many) {
        Bench b = new Bench();
        for (int k = 0; k < many; k++) {
            b.it.make(2, k < 29 ? k / 5 : 14, k < 29 ? k % 5 : 16);
        }
        return b;
    }

    /** An object with formulas of 1 .. 8 leaves, each the one before with a b more. */
    static Bench sizes() {
        Bench b = new Bench();
        int n = 0;
        for (int leaves = 2; leaves <= 8; leaves++) {
            n = b.it.make(0, n, 2);
        }
        return b;
    }

    /** The number that the formula of so many leaves has in sizes(). */
    static int ofLeaves(int leaves) {
        return leaves == 1 ? 0 : 16 + 2 * leaves;
    }

    /** Puts a proof of a, ~a with so many nodes (1, or 3 and more) into a slot, with the help of slot 3. */
    static void letterProof(Bench b, int slot, int nodes) {
        b.it.axiom(slot, 0);
        if (nodes % 2 == 0) {
            b.it.bottom(slot);
            b.it.one(3);
            b.it.cut(slot, 3, 17);
        }
        b.it.axiom(3, 0);
        while (b.it.nodes(slot) < nodes) {
            b.it.cut(slot, 3, 0);
        }
        b.it.drop(3);
    }

    /** Such proofs in slots 0 and 1, and the formulas of rules: see the numbers below. */
    static Bench letterProofs(int nodes, int others) {
        Bench b = new Bench();
        b.it.make(0, 0, 1);
        b.it.make(1, 0, 1);
        b.it.make(2, 0, 1);
        b.it.make(3, 0, 0);
        letterProof(b, 0, nodes);
        letterProof(b, 1, others);
        return b;
    }

    static final int TIMES_OF_LETTER = 20;
    static final int PAR_OF_LETTER = 23;
    static final int PLUS_OF_LETTER = 24;
    static final int WITH_OF_LETTER = 27;

    /** A slot gets TOP with these formulas. */
    static void top(Bench b, int slot, int... formulas) {
        b.setDraft(formulas);
        b.it.top(slot);
        b.setDraft(new int[0]);
    }

    /**
     * A CUT of a WITH, and of a proof of 47 nodes, whose STEP has the latter twice: with one LEFT above
     * the WITH there would be 100 nodes then, with two of them 101.
     */
    static Bench doubling(int lefts) {
        Bench b = doublingPremises(lefts);
        b.it.cut(0, 1, DOUBLED);
        return b;
    }

    /** The same with a BOTTOM below the WITH, so that the second STEP is the one that doubles. */
    static Bench doublingSecond(int lefts) {
        Bench b = doublingPremises(lefts);
        b.it.bottom(0);
        b.it.cut(0, 1, DOUBLED);
        return b;
    }

    private static final int DOUBLED = 24;

    private static Bench doublingPremises(int lefts) {
        Bench b = new Bench();
        int plus = b.read("(~a+b)");
        int two = b.read("(a&a)");
        int four = b.it.make(3, two, two);
        int both = b.it.make(3, plus, plus);
        b.it.axiom(1, 0);
        b.it.plus(1, plus, false);
        b.it.with(1, 1, two);
        b.it.with(1, 1, both);
        b.it.with(1, 1, four);
        b.it.with(1, 1, b.it.make(3, both, both));
        int truth = b.read("(T+b)");
        top(b, 0, DOUBLED);
        top(b, 2, DOUBLED);
        if (lefts > 0) {
            b.it.plus(2, truth, false);
        }
        if (lefts > 1) {
            b.it.plus(0, truth, false);
        }
        b.it.with(0, 2, b.it.make(3, lefts > 1 ? truth : 19, lefts > 0 ? truth : 19));
        return b;
    }

    /**
     * A CUT of TIMES and PAR, whose STEP makes a conclusion inside with one formula, and seven leaves,
     * more than the proof's own has: that is of so many formulas, 5 .. 8, and as many leaves.
     */
    static Bench widening(int formulas) {
        Bench b = new Bench();
        int ones = b.read("(1*(1*(1*(1*(1*(1*1))))))");
        int n = b.it.make(0, ones, 2);
        b.setDraft(ones);
        b.it.prove(0);
        top(b, 1, Arrays.copyOf(new int[] {2, 0, 0, 0}, formulas - 4));
        b.it.times(0, 1, n);
        top(b, 1, ones ^ 1, 3);
        b.it.bottom(1);
        b.it.bottom(1);
        b.it.bottom(1);
        b.it.par(1, n ^ 1);
        b.it.cut(0, 1, n);
        return b;
    }

    /** A proof 16 rules high under which 17 CUTS take 297 STEPS, and some of an AXIOM that take one each. */
    static Bench manySteps(int single) {
        Bench b = new Bench();
        int sum = b.read("(a+a)");
        b.it.axiom(0, 0);
        b.it.bottom(0);
        int falsum = 17;
        for (int i = 0; i < 7; i++) {
            b.it.bottom(0);
            falsum = b.it.make(1, falsum, 17);
            b.it.par(0, falsum);
        }
        b.it.bottom(0);
        b.it.axiom(1, 0);
        b.it.plus(1, sum, false);
        b.it.axiom(2, 0);
        b.it.with(2, 2, sum ^ 1);
        b.it.axiom(3, 0);
        for (int i = 0; i < single; i++) {
            b.it.cut(0, 3, 0);
        }
        for (int i = 0; i < 17; i++) {
            b.it.cut(0, i % 2 == 0 ? 1 : 2, i % 2 == 0 ? 0 : sum);
        }
        return b;
    }
}
