import java.util.function.Supplier;

/** The sentences of the document that set a limit to the search and to STEPS: promises 21 to 23, and Terms. */
public final class SearchLimitsTest extends Check {
    private static Supplier<Bench> drafted(String... texts) {
        return () -> {
            Bench b = new Bench();
            b.it.axiom(0, 7);
            b.setDraft(texts);
            return b;
        };
    }

    /** The draft has this proof, and stays. */
    private static void found(String want, String... texts) {
        Bench b = drafted(texts).get();
        String draft = b.draft();
        due("proving " + draft, b.it.prove(0), true);
        due("the proof of " + draft, b.proof(0), want);
        due("the draft behind it", b.draft(), draft);
        due("no CUTS", b.it.cuts(0), 0);
        due("a node that is not as its rule asks", new ProofChecker(b.it, 0).firstWrong(), -1);
    }

    private static void none(String... texts) {
        refused("proving " + String.join(", ", texts), drafted(texts), b -> b.it.prove(0), false);
        refused("the same for an empty slot", drafted(texts), b -> b.it.prove(1), false);
    }

    private static void emptyDraft() {
        none();
        found("1/16[16]", "1");
        none("0");
        none("F");
        found("2/19[19]", "T");
    }

    private static void fullDraft() {
        found("2/19[0 0 0 0 0 0 0 19]", "a", "a", "a", "a", "a", "a", "a", "T");
        none("a", "~a", "a", "~a", "a", "~a", "a", "~a");
        none("1", "1", "1", "1", "1", "1", "1", "1");
        none("F", "F", "F", "F", "F", "F", "F", "F");
        Bench b = drafted("F", "F", "F", "F", "F", "F", "F", "1").get();
        due("seven BOTTOMS", b.it.prove(2), true);
        due("nodes", b.it.nodes(2), 8);
        due("the last is ONE", b.it.node(2, 7, 0), 1);
    }

    private static void leastOddAboveSixteen() {
        found("3/17[16 17] 1/16[16]", "1", "F");
        found("3/17[1 17 19] 2/19[1 19]", "~a", "F", "T");
        found("2/19[19 21]", "T", "(a%b)");
        found("4/21[1 15 21] 2/19[1 2 15 19]", "~a", "~h", "(b%T)");
        found("4/21[0 21 23] 2/19[0 0 19 23]", "(a%T)", "(a%a)", "a");
        found("5/21[20 21] 6/20[1 20] 0/0[0 1] 7/20[3 20] 0/2[2 3]", "(a+b)", "(~a&~b)");
    }

    private static void axiomsAndOne() {
        found("0/0[0 1]", "a", "~a");
        found("0/14[14 15]", "h", "~h");
        none("a");
        none("a", "a");
        none("~a", "~a");
        none("~a", "b");
        none("a", "~a", "1");
        none("a", "~a", "a");
        none("1", "0");
        none("1", "1");
    }

    private static void leftThenRight() {
        found("6/20[1 20] 0/0[0 1]", "(a+a)", "~a");
        found("6/20[20] 2/19[19]", "(T+T)");
        found("7/20[20] 1/16[16]", "(0+1)");
        none("(0+0)");
        none("(a+b)", "~c");
        found("6/20[20 22] 2/19[19 22]", "(T+0)", "(T+1)");
        found("6/20[20 22] 7/22[18 22] 2/19[18 19]", "(0+0)", "(0+T)");
        found("6/22[20 22] 5/21[20 21] 6/20[1 20] 0/0[0 1] 7/20[3 20] 0/2[2 3]", "(a+b)", "((~a&~b)+0)");
        found("6/20[20 20] 2/19[19 20]", "(T+0)", "(T+0)");
    }

    private static void sharesFromZero() {
        found("8/20[20] 1/16[16] 1/16[16]", "(1*1)");
        found("8/20[0 2 4 6 8 10 20] 2/19[19] 2/19[0 2 4 6 8 10 19]", "(T*T)", "a", "b", "c", "d", "e", "f");
        found("8/20[0 2 4 6 8 10 20] 2/19[0 2 4 6 8 10 19] 1/16[16]", "(T*1)", "a", "b", "c", "d", "e", "f");
        found("8/20[0 2 4 6 8 10 20] 1/16[16] 2/19[0 2 4 6 8 10 19]", "(1*T)", "a", "b", "c", "d", "e", "f");
        found("8/20[1 2 5 20] 0/0[0 1] 2/19[2 5 19]", "(a*T)", "~a", "b", "~c");
        found("8/20[0 2 5 20] 0/4[4 5] 2/19[0 2 19]", "(c*T)", "a", "b", "~c");
        found("8/20[20 20] 2/19[19] 2/19[19 20]", "(T*T)", "(T*T)");
        none("(a*b)", "~a", "~b", "~b");
        none("(a*b)", "~a", "b");
        none("(1*1)", "1");
    }

    private static void longestSearch() {
        none("(1*b)", "(1*~a)", "(1*~b)", "(F*1)");
        Bench b = drafted("(1&(1&1))", "(F&(F&F))", "(F&F)").get();
        due("a great proof", b.it.prove(0), true);
        due("its nodes", b.it.nodes(0), 59);
        due("a node that is not as its rule asks", new ProofChecker(b.it, 0).firstWrong(), -1);
    }

    /** What was found to have no proof does not count for other sequents, up to those of the last numbers. */
    private static void foundBehindOthers() {
        Bench b = new Bench();
        for (int k = 0; k < 30; k++) {
            b.it.make(2, k < 20 ? k % 10 : 0, k < 10 ? 1 : k);
        }
        due("formulas", b.it.formulas(), 80);
        for (int n = 2; n < 16; n++) {
            b.setDraft(1, n);
            due("none of ~a and " + n, b.it.prove(0), false);
        }
        for (int n = 60; n < 80; n += 2) {
            b.setDraft(n);
            due("none of " + n + " alone", b.it.prove(0), false);
            b.setDraft(1, n);
            due("~a and " + n, b.it.prove(0), true);
            due("its proof", b.proof(0), "6/" + n + "[1 " + n + "] 0/0[0 1]");
        }
        b = new Bench();
        b.setDraft(b.read("(~a+~a)"));
        due("none of (~a+~a) alone", b.it.prove(0), false);
        b.it.put(0);
        due("with a", b.it.prove(0), true);
        b.it.put(0);
        due("with a twice", b.it.prove(0), false);
    }

    private static Bench oneCut() {
        Bench b = new Bench();
        b.it.axiom(0, 0);
        b.it.cut(0, 0, 0);
        return b;
    }

    private static void stepsWithoutCuts() {
        Bench b = oneCut();
        due("CUTS that are left", b.it.step(0), 0);
        due("the proof", b.proof(0), "0/0[0 1]");
        due("no CUT", b.it.step(0), NONE);
        due("nor now", b.it.step(0), NONE);
        due("the proof still", b.proof(0), "0/0[0 1]");
        due("no STEPS", b.it.eliminate(0), 0);
        due("one STEP", oneCut().it.eliminate(0), 1);
        refused("a STEP of no proof", () -> oneCut(), x -> x.it.step(1), STATE);
        refused("STEPS of no proof", () -> oneCut(), x -> x.it.eliminate(1), STATE);
    }

    private static void hundredBehindStep() {
        due("nodes before", Examples.doubling(1).it.nodes(0), 52);
        allowed("to 100 nodes", () -> Examples.doubling(1), b -> b.it.step(0), 2);
        Bench b = Examples.doubling(1);
        b.it.step(0);
        due("nodes", b.it.nodes(0), 100);
        due("the first has all", b.it.node(0, 0, 3), 100);
        due("the last node", b.it.node(0, 99, 0), 0);
        due("no node more", b.answerOf(x -> x.it.node(0, 100, 0)), INDEX);
        due("a node that is not as its rule asks", new ProofChecker(b.it, 0).firstWrong(), -1);
        due("nodes before, with one more", Examples.doubling(2).it.nodes(0), 53);
        refused("to 101 nodes", () -> Examples.doubling(2), x -> x.it.step(0), TOO_MUCH);
        refused("to 101 nodes, one below the CUT", () -> below(Examples.doubling(1)), x -> x.it.step(0), TOO_MUCH);
        allowed("to 100 nodes, one below the CUT", () -> below(Examples.doubling(0)), x -> x.it.step(0), 2);
        due("they are 100", stepped(below(Examples.doubling(0))).it.nodes(0), 100);
    }

    private static void stepOf(Bench b, String before, String behind) {
        due("the proof before", b.proof(0), before);
        due("CUTS", b.it.step(0), 1);
        due("the proof behind", b.proof(0), behind);
        due("a node that is not as its rule asks", new ProofChecker(b.it, 0).firstWrong(), -1);
    }

    /** The first premise of a TIMES has a as its part, and perhaps once more; the second has it anyway. */
    private static Bench partOfFirst(int... first) {
        Bench b = new Bench();
        int times = b.read("(a*~a)");
        int plus = b.read("(a+b)");
        b.it.axiom(1, 0);
        Examples.top(b, 0, first);
        b.it.times(0, 1, times);
        b.it.plus(1, plus, false);
        b.it.cut(0, 1, 0);
        return b;
    }

    /** The same with (~a&~a), the dual of the CUT's formula, in the CUT's second premise. */
    private static Bench partOfSecond(int... first) {
        Bench b = new Bench();
        int plus = b.read("(a+a)");
        int times = b.it.make(0, plus ^ 1, 0);
        Examples.top(b, 1, first);
        Examples.top(b, 2, 0, plus ^ 1);
        b.it.times(1, 2, times);
        b.it.axiom(0, 0);
        b.it.plus(0, plus, false);
        b.it.cut(0, 1, plus);
        return b;
    }

    private static void withoutOnePart() {
        String axiom = "0/0[0 1]";
        String left = "6/22[1 22] 0/0[0 1]";
        stepOf(partOfFirst(0), "9/0[19 20 22] 8/20[0 19 20] 2/19[0 19] " + axiom + " " + left,
            "8/20[19 20 22] 2/19[0 19] 9/0[1 22] " + axiom + " " + left);
        stepOf(partOfFirst(0, 0), "9/0[0 19 20 22] 8/20[0 0 19 20] 2/19[0 0 19] " + axiom + " " + left,
            "8/20[0 19 20 22] 9/0[0 19 22] 2/19[0 0 19] " + left + " " + axiom);
        String plus = "6/20[1 20] 0/0[0 1]";
        String second = "2/19[0 19 21]";
        stepOf(partOfSecond(21), "9/20[1 19 19 22] " + plus + " 8/22[19 19 21 22] 2/19[19 21] " + second,
            "8/22[1 19 19 22] 2/19[19 21] 9/20[0 1 19] " + plus + " " + second);
        stepOf(partOfSecond(21, 21), "9/20[1 19 19 21 22] " + plus + " 8/22[19 19 21 21 22] 2/19[19 21 21] " + second,
            "8/22[1 19 19 21 22] 9/20[1 19 21] " + plus + " 2/19[19 21 21] " + second);
    }

    private static Bench below(Bench b) {
        b.it.bottom(0);
        return b;
    }

    private static Bench stepped(Bench b) {
        b.it.step(0);
        return b;
    }

    private static void hundredBehindSteps() {
        Bench b = Examples.doubling(1);
        due("STEPS by way of 100 nodes", b.it.eliminate(0), 4);
        due("the rules that are left", b.it.node(0, 0, 0) + " " + b.it.nodes(0) + " " + b.it.cuts(0), "5 4 0");
        refused("101 behind the first", () -> Examples.doubling(2), x -> x.it.eliminate(0), TOO_MUCH);
        Supplier<Bench> second = () -> Examples.doublingSecond(1);
        due("nodes before", second.get().it.nodes(0), 53);
        refused("101 behind the second", second, x -> x.it.eliminate(0), TOO_MUCH);
        allowed("the first of them", second, x -> x.it.step(0), 1);
        refused("the second of them", () -> stepped(second.get()), x -> x.it.step(0), TOO_MUCH);
        refused("the others", () -> stepped(second.get()), x -> x.it.eliminate(0), TOO_MUCH);
        allowed("100 behind the second", () -> Examples.doublingSecond(0), x -> x.it.eliminate(0), 4);
    }

    private static void threeHundredSteps() {
        Bench b = Examples.manySteps(3);
        due("300 STEPS", b.it.eliminate(0), 300);
        due("no CUTS", b.it.cuts(0), 0);
        due("a node that is not as its rule asks", new ProofChecker(b.it, 0).firstWrong(), -1);
        refused("301 STEPS", () -> Examples.manySteps(4), x -> x.it.eliminate(0), TOO_MUCH);
        b = Examples.manySteps(4);
        due("CUTS before", b.it.cuts(0), 21);
        due("301 STEPS still", b.answerOf(x -> x.it.eliminate(0)), TOO_MUCH);
        due("one by itself", b.it.step(0), 20);
        due("the 300 others", b.it.eliminate(0), 300);
        due("none now", b.it.eliminate(0), 0);
    }

    /** Only the nodes count behind a STEP, and a conclusion may have more than a proof gets by a rule. */
    private static void wideInside() {
        Bench b = Examples.widening(8);
        due("formulas", b.it.node(0, 0, 2), 8);
        int p = b.it.node(0, 2, 3);
        due("CUTS", b.it.step(0), 2);
        due("the proof's own conclusion", b.line(0, 0), "0 0 0 17 17 17 19 19");
        due("the rule inside", b.it.node(0, 1 + p, 0), 9);
        due("its formulas", b.it.node(0, 1 + p, 2), 9);
        due("its conclusion", b.line(0, 1 + p), "0 0 0 17 17 17 19 19 31");
        due("its last formula", b.it.conclusion(0, 1 + p, 8), 31);
        due("the leaves of it", b.it.about(31, 0), 7);
        due("no more", b.it.conclusion(0, 1 + p, 9), NONE);
        due("a node that is not as its rule asks", new ProofChecker(b.it, 0).firstWrong(), -1);
        Bench other = Examples.widening(7);
        due("CUTS", other.it.step(0), 2);
        due("a rule below 14 leaves inside", other.it.bottom(0) > 0, true);
        due("STEPS", other.it.eliminate(0) > 0, true);
        due("no CUTS", other.it.cuts(0), 0);
    }

    private static void slotOfTheProof() {
        for (int slot = 0; slot < 4; slot++) {
            Bench b = drafted("a", "~a").get();
            due("in slot " + slot, b.it.prove(slot), true);
            due("the proof", b.proof(slot), "0/0[0 1]");
        }
        for (int slot : new int[] {LEAST, -1, 4, GREATEST}) {
            refused("slot " + slot, drafted("a", "~a"), b -> b.it.prove(slot), ARGUMENT);
            refused("slot " + slot + ", no proof", drafted("a", "a"), b -> b.it.prove(slot), ARGUMENT);
        }
    }

    public static void main(String[] args) {
        test("THE PROOF FOUND of no formula, and of one", () -> emptyDraft());
        test("THE PROOF FOUND of eight formulas", () -> fullDraft());
        test("If S has odd numbers above 16, let n be the least of these", () -> leastOddAboveSixteen());
        test("when S is n, n + 1 for an even letter n; when it is 16 alone", () -> axiomsAndOne());
        test("for each even number n above 19, in rising order: LEFT, then RIGHT", () -> leftThenRight());
        test("bit i of m, for m = 0, 1, ..", () -> sharesFromZero());
        test("promise 21: Whether the draft has a proof, however long it takes", () -> longestSearch());
        test("promise 21: Whether the draft has a proof, behind others that have none", () -> foundBehindOthers());
        test("promise 21: the slot gets the PROOF FOUND", () -> slotOfTheProof());
        test("promises 22, 23: NONE when it had none; there is no proof", () -> stepsWithoutCuts());
        test("P's conclusion without one A has n", () -> withoutOnePart());
        test("promise 22: it would have more than 100 nodes", () -> hundredBehindStep());
        test("promise 22: nothing but the nodes is too much", () -> wideInside());
        test("promise 23: behind one of them it would have more than 100 nodes", () -> hundredBehindSteps());
        test("promise 23: behind 300 it has CUTS", () -> threeHundredSteps());
        end("sentences on the search and on STEPS");
    }
}
