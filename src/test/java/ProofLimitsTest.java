import java.util.Arrays;
import java.util.function.IntFunction;
import java.util.function.Supplier;

/** The sentences of the document that set a limit to proofs: Terms, and promises 11 to 20 and 24 to 27. */
public final class ProofLimitsTest extends Check {
    private static final int TIMES = Examples.TIMES_OF_LETTER;
    private static final int PAR = Examples.PAR_OF_LETTER;
    private static final int PLUS = Examples.PLUS_OF_LETTER;
    private static final int WITH = Examples.WITH_OF_LETTER;
    private static final int[] NO_SLOTS = {LEAST, -1, 4, 5, GREATEST};

    private record OfSlot(String name, IntFunction<Call> call, Object want) {
    }

    /** Every call that has a slot, with its answer when all four slots have an AXIOM of a. */
    private static OfSlot[] callsOfSlots() {
        return new OfSlot[] {
            new OfSlot("axiom", slot -> b -> b.it.axiom(slot, 0), 1),
            new OfSlot("one", slot -> b -> b.it.one(slot), 1),
            new OfSlot("top", slot -> b -> b.it.top(slot), 1),
            new OfSlot("bottom", slot -> b -> b.it.bottom(slot), 2),
            new OfSlot("par", slot -> b -> b.it.par(slot, PAR), 2),
            new OfSlot("LEFT", slot -> b -> b.it.plus(slot, PLUS, false), 2),
            new OfSlot("RIGHT", slot -> b -> b.it.plus(slot, PLUS, true), 2),
            new OfSlot("with", slot -> b -> b.it.with(slot, 1, WITH), 3),
            new OfSlot("with, other", slot -> b -> b.it.with(1, slot, WITH), 3),
            new OfSlot("times", slot -> b -> b.it.times(slot, 1, TIMES), 3),
            new OfSlot("times, other", slot -> b -> b.it.times(1, slot, TIMES), 3),
            new OfSlot("cut", slot -> b -> b.it.cut(slot, 1, 0), 3),
            new OfSlot("cut, other", slot -> b -> b.it.cut(1, slot, 0), 3),
            new OfSlot("drop", slot -> b -> b.it.drop(slot), 1),
            new OfSlot("prove", slot -> b -> b.it.prove(slot), true),
            new OfSlot("step", slot -> b -> b.it.step(slot), NONE),
            new OfSlot("eliminate", slot -> b -> b.it.eliminate(slot), 0),
            new OfSlot("nodes", slot -> b -> b.it.nodes(slot), 1),
            new OfSlot("cuts", slot -> b -> b.it.cuts(slot), 0),
            new OfSlot("node", slot -> b -> b.it.node(slot, 0, 3), 1),
            new OfSlot("conclusion", slot -> b -> b.it.conclusion(slot, 0, 1), 1),
        };
    }

    private static Bench fourAxioms() {
        Bench b = Examples.letterProofs(1, 1);
        b.it.axiom(2, 0);
        b.it.axiom(3, 0);
        b.setDraft(0, 1);
        return b;
    }

    private static Bench noProofs() {
        Bench b = fourAxioms();
        for (int slot = 0; slot < 4; slot++) {
            b.it.drop(slot);
        }
        return b;
    }

    private static void slots() {
        for (OfSlot each : callsOfSlots()) {
            for (int slot = 0; slot < 4; slot++) {
                allowed(each.name + " of slot " + slot, () -> fourAxioms(), each.call.apply(slot), each.want);
            }
            for (int slot : NO_SLOTS) {
                String what = each.name + " of slot " + slot;
                refused(what, () -> fourAxioms(), each.call.apply(slot), ARGUMENT);
                refused(what + " and no proofs", () -> noProofs(), each.call.apply(slot), ARGUMENT);
            }
        }
    }

    /** A call changes no slot but its own. */
    private static void otherSlots() {
        for (OfSlot each : callsOfSlots()) {
            if (each.name.endsWith("other")) {
                continue;
            }
            for (int slot = 0; slot < 4; slot++) {
                Bench b = fourAxioms();
                b.answerOf(each.call.apply(slot));
                for (int more = 1; more < 4; more++) {
                    int other = (slot + more) % 4;
                    due(each.name + " of " + slot + ", slot " + other, b.proof(other), "0/0[0 1]");
                }
            }
        }
    }

    private static Supplier<Bench> letters(int nodes, int others) {
        return () -> Examples.letterProofs(nodes, others);
    }

    private static void hundredOfOnePremise() {
        Call[] rules = {
            b -> b.it.bottom(0), b -> b.it.par(0, PAR), b -> b.it.plus(0, PLUS, false), b -> b.it.plus(0, PLUS, true),
        };
        for (int i = 0; i < rules.length; i++) {
            due("99 nodes", letters(99, 1).get().it.nodes(0), 99);
            allowed("100 nodes by " + i, letters(99, 1), rules[i], 100);
            refused("101 nodes by " + i, letters(100, 1), rules[i], TOO_MUCH);
            Bench b = letters(99, 1).get();
            rules[i].apply(b);
            due("all are there", b.it.nodes(0) + " " + b.it.node(0, 0, 3) + " " + b.it.node(0, 99, 0), "100 100 0");
            due("a node that is not as its rule asks", new ProofChecker(b.it, 0).firstWrong(), -1);
        }
    }

    private static void hundredOfTwoPremises() {
        Call[] rules = {b -> b.it.with(0, 1, WITH), b -> b.it.times(0, 1, TIMES), b -> b.it.cut(0, 1, 0)};
        Call[] ofItself = {b -> b.it.with(0, 0, WITH), b -> b.it.times(0, 0, TIMES), b -> b.it.cut(0, 0, 0)};
        int[][] most = {{49, 50}, {50, 49}, {1, 98}, {98, 1}};
        int[][] more = {{50, 50}, {49, 51}, {1, 99}, {99, 1}, {1, 100}, {100, 1}, {100, 100}};
        for (int i = 0; i < rules.length; i++) {
            for (int[] both : most) {
                allowed(both[0] + " and " + both[1] + " nodes by " + i, letters(both[0], both[1]), rules[i], 100);
                Bench b = letters(both[0], both[1]).get();
                rules[i].apply(b);
                due("a node that is not as its rule asks", new ProofChecker(b.it, 0).firstWrong(), -1);
                due("the other one's nodes", b.it.nodes(1), both[1]);
            }
            for (int[] both : more) {
                refused(both[0] + " and " + both[1] + " nodes by " + i, letters(both[0], both[1]), rules[i], TOO_MUCH);
            }
            allowed("49 nodes twice by " + i, letters(49, 1), ofItself[i], 99);
            refused("50 nodes twice by " + i, letters(50, 1), ofItself[i], TOO_MUCH);
        }
    }

    /** TOP in slots 0 and 1, with a (and its dual) and so many 1s. */
    private static Supplier<Bench> ones(int ones, int others, int second) {
        return () -> {
            Bench b = Examples.letterProofs(1, 1);
            int[] first = new int[ones + 1];
            int[] other = new int[others + 1];
            Arrays.fill(first, 16);
            Arrays.fill(other, 16);
            first[0] = 0;
            other[0] = second;
            Examples.top(b, 0, first);
            Examples.top(b, 1, other);
            return b;
        };
    }

    private static Bench draftOfOnes(int ones) {
        Bench b = fourAxioms();
        b.setDraft(new int[0]);
        for (int i = 0; i < ones; i++) {
            b.it.put(16);
        }
        return b;
    }

    private static void eightFormulas() {
        allowed("TOP with seven", () -> draftOfOnes(7), b -> b.it.top(0), 1);
        refused("TOP with eight", () -> draftOfOnes(8), b -> b.it.top(0), TOO_MUCH);
        refused("TOP with eight, no proof before", () -> withoutFirst(draftOfOnes(8)), b -> b.it.top(0), TOO_MUCH);
        allowed("BOTTOM of seven", ones(5, 0, 1), b -> b.it.bottom(0), 2);
        refused("BOTTOM of eight", ones(6, 0, 1), b -> b.it.bottom(0), TOO_MUCH);
        allowed("TIMES of four and five beside", ones(2, 3, 1), b -> b.it.times(0, 1, TIMES), 3);
        allowed("TIMES of eight and two", ones(5, 0, 1), b -> b.it.times(0, 1, TIMES), 3);
        refused("TIMES of nine", ones(3, 3, 1), b -> b.it.times(0, 1, TIMES), TOO_MUCH);
        refused("TIMES of nine, all in one", ones(6, 0, 1), b -> b.it.times(0, 1, TIMES), TOO_MUCH);
        allowed("CUT of eight", ones(3, 3, 1), b -> b.it.cut(0, 1, 0), 3);
        allowed("CUT of eight, all in one", ones(6, 0, 1), b -> b.it.cut(0, 1, 0), 3);
        refused("CUT of nine", ones(3, 4, 1), b -> b.it.cut(0, 1, 0), TOO_MUCH);
        refused("CUT of nine, most in one", ones(1, 6, 1), b -> b.it.cut(0, 1, 0), TOO_MUCH);
        refused("CUT of fourteen", ones(6, 6, 1), b -> b.it.cut(0, 1, 0), TOO_MUCH);
        allowed("WITH of eight", ones(6, 6, 0), b -> b.it.with(0, 1, WITH), 3);
        allowed("LEFT of eight", ones(6, 0, 0), b -> b.it.plus(0, PLUS, false), 2);
        Bench b = draftOfOnes(7);
        b.it.top(0);
        due("eight formulas", b.it.node(0, 0, 2), 8);
        due("the last of them", b.it.conclusion(0, 0, 7), 19);
    }

    private static Bench withoutFirst(Bench b) {
        b.it.drop(0);
        return b;
    }

    /** TOP in slots 0 and 1 with formulas of so many leaves; the number of another formula is 34 or 35. */
    private static Supplier<Bench> leaves(int sign, int a, int b, int[] first, int[] second) {
        return () -> {
            Bench bench = Examples.sizes();
            bench.it.make(sign, Examples.ofLeaves(a), Examples.ofLeaves(b));
            Examples.top(bench, 0, numbers(first));
            Examples.top(bench, 1, numbers(second));
            return bench;
        };
    }

    private static int[] numbers(int... leaves) {
        int[] numbers = new int[leaves.length];
        for (int i = 0; i < leaves.length; i++) {
            numbers[i] = leaves[i] < 0 ? Examples.ofLeaves(-leaves[i]) ^ 1 : Examples.ofLeaves(leaves[i]);
        }
        return numbers;
    }

    private static int[] row(int... leaves) {
        return leaves;
    }

    private static void twelveLeaves() {
        int[] none = {};
        Call left = b -> b.it.plus(0, 34, false);
        allowed("LEFT to 12", leaves(2, 4, 3, row(4, 4), none), left, 2);
        refused("LEFT to 13", leaves(2, 4, 4, row(4, 4), none), left, TOO_MUCH);
        Call right = b -> b.it.plus(0, 34, true);
        allowed("RIGHT to 12", leaves(2, 3, 4, row(4, 4), none), right, 2);
        refused("RIGHT to 13", leaves(2, 4, 4, row(4, 4), none), right, TOO_MUCH);
        Call with = b -> b.it.with(0, 1, 35);
        allowed("WITH to 12", leaves(3, 4, 3, row(4, 4), row(3, 4)), with, 3);
        allowed("WITH to 12, the less first", leaves(3, 3, 4, row(3, 4), row(4, 4)), with, 3);
        refused("WITH to 13", leaves(3, 4, 4, row(4, 4), row(4, 4)), with, TOO_MUCH);
        Call times = b -> b.it.times(0, 1, 34);
        allowed("TIMES to 12", leaves(0, 4, 4, row(4, 1), row(4, 1)), times, 3);
        allowed("TIMES to 12, all in one", leaves(0, 4, 4, row(4), row(4, 2)), times, 3);
        refused("TIMES to 13", leaves(0, 4, 4, row(4, 2), row(4, 1)), times, TOO_MUCH);
        refused("TIMES to 13, all in one", leaves(0, 4, 4, row(4, 3), row(4)), times, TOO_MUCH);
        Call cut = b -> b.it.cut(0, 1, 0);
        allowed("CUT to 12", leaves(0, 1, 1, row(1, 5), row(-1, 5)), cut, 3);
        allowed("CUT to 12, most in one", leaves(0, 1, 1, row(1, 7), row(-1, 3)), cut, 3);
        refused("CUT to 13", leaves(0, 1, 1, row(1, 6), row(-1, 5)), cut, TOO_MUCH);
        refused("CUT to 13, most in one", leaves(0, 1, 1, row(1, 4), row(-1, 7)), cut, TOO_MUCH);
        allowed("the CUT's own leaves", leaves(0, 1, 1, row(4, 4), row(-4, 4)), b -> b.it.cut(0, 1, 24), 3);
        allowed("BOTTOM to 12", bottoms(2), b -> b.it.bottom(0), 4);
        refused("BOTTOM to 13", bottoms(3), b -> b.it.bottom(0), TOO_MUCH);
        allowed("PAR of 12", bottoms(3), b -> b.it.par(0, b.it.make(1, 17, 17)), 5);
    }

    /** TOP with a formula of eight leaves, and so many BOTTOMS below. */
    private static Supplier<Bench> bottoms(int many) {
        return () -> {
            Bench b = Examples.sizes();
            Examples.top(b, 0, Examples.ofLeaves(8));
            for (int i = 0; i < many; i++) {
                b.it.bottom(0);
            }
            return b;
        };
    }

    private static void lettersOfAxioms() {
        for (int k : new int[] {LEAST, -1, 8, 9, 16, GREATEST}) {
            refused("letter " + k, () -> fourAxioms(), b -> b.it.axiom(0, k), ARGUMENT);
            refused("letter " + k + " and no proof", () -> noProofs(), b -> b.it.axiom(3, k), ARGUMENT);
        }
        for (int k = 0; k < 8; k++) {
            Bench b = letters(100, 1).get();
            due("letter " + k, b.it.axiom(0, k), 1);
            due("in place of what was there", b.proof(0), "0/" + 2 * k + "[" + 2 * k + " " + (2 * k + 1) + "]");
        }
    }

    private static void placeOfAnother() {
        Bench b = letters(100, 1).get();
        due("ONE", b.it.one(0), 1);
        due("in place of 100 nodes", b.proof(0), "1/16[16]");
        b = letters(100, 1).get();
        due("TOP", b.it.top(0), 1);
        due("with an empty draft, in place of 100 nodes", b.proof(0), "2/19[19]");
        b = letters(100, 1).get();
        b.setDraft(0, 1);
        due("proving", b.it.prove(0), true);
        due("in place of 100 nodes", b.proof(0), "0/0[0 1]");
    }

    /** Each rule that asks for a sign gets every formula that there is, and some that there are not. */
    private static void formulasOfRules() {
        IntFunction<Call> par = n -> b -> b.it.par(0, n);
        IntFunction<Call> left = n -> b -> b.it.plus(0, n, false);
        IntFunction<Call> right = n -> b -> b.it.plus(0, n, true);
        IntFunction<Call> with = n -> b -> b.it.with(0, 1, n);
        IntFunction<Call> times = n -> b -> b.it.times(0, 1, n);
        signOfRule("par", par, 1);
        signOfRule("LEFT", left, 2);
        signOfRule("RIGHT", right, 2);
        signOfRule("with", with, 3);
        signOfRule("times", times, 0);
        IntFunction<Call> cut = n -> b -> b.it.cut(0, 1, n);
        for (int n : new int[] {LEAST, -1, 28, 80, GREATEST}) {
            refused("CUT of " + n, () -> fourAxioms(), cut.apply(n), ARGUMENT);
            refused("CUT of " + n + " and no proofs", () -> noProofs(), cut.apply(n), ARGUMENT);
        }
        for (int n = 0; n < 28; n++) {
            allowed("CUT of " + n, () -> fourAxioms(), cut.apply(n), n < 2 ? 3 : STATE);
        }
    }

    private static void signOfRule(String name, IntFunction<Call> rule, int sign) {
        for (int n : new int[] {LEAST, -1, 28, 80, GREATEST}) {
            refused(name + " of " + n, () -> fourAxioms(), rule.apply(n), ARGUMENT);
            refused(name + " of " + n + " and no proofs", () -> noProofs(), rule.apply(n), ARGUMENT);
        }
        for (int n = 0; n < 28; n++) {
            if (fourAxioms().it.about(n, 1) == sign) {
                due(name + " of " + n, fourAxioms().answerOf(rule.apply(n)).equals(ARGUMENT), false);
                refused(name + " of " + n + " and no proofs", () -> noProofs(), rule.apply(n), STATE);
            } else {
                refused(name + " of " + n, () -> fourAxioms(), rule.apply(n), ARGUMENT);
                refused(name + " of " + n + " and no proofs", () -> noProofs(), rule.apply(n), ARGUMENT);
            }
        }
    }

    /** TOP with these formulas in slots 0 and 1, the formulas being (a%a), (a%b), (a+b), (a&b), (a*b) from 20 on. */
    private static Supplier<Bench> tops(int[] first, int[] second) {
        return () -> {
            Bench b = new Bench();
            for (String text : new String[] {"(a%a)", "(a%b)", "(a+b)", "(a&b)", "(a*b)"}) {
                b.read(text);
            }
            Examples.top(b, 0, first);
            Examples.top(b, 1, second);
            return b;
        };
    }

    private static void askedOfOnePremise() {
        int[] none = {};
        Call twice = b -> b.it.par(0, 21);
        allowed("PAR of a, a", tops(row(0, 0), none), twice, 2);
        refused("PAR of one a", tops(row(0, 1), none), twice, STATE);
        refused("PAR of no a", tops(row(2, 2), none), twice, STATE);
        Call par = b -> b.it.par(0, 23);
        allowed("PAR of a, b", tops(row(2, 0), none), par, 2);
        refused("PAR of a", tops(row(0, 0), none), par, STATE);
        refused("PAR of b", tops(row(2, 2), none), par, STATE);
        refused("PAR of the duals", tops(row(1, 3), none), par, STATE);
        allowed("LEFT of a", tops(row(0), none), b -> b.it.plus(0, 24, false), 2);
        refused("LEFT of b", tops(row(2), none), b -> b.it.plus(0, 24, false), STATE);
        allowed("RIGHT of b", tops(row(2), none), b -> b.it.plus(0, 24, true), 2);
        refused("RIGHT of a", tops(row(0), none), b -> b.it.plus(0, 24, true), STATE);
        refused("LEFT of the dual", tops(row(1), none), b -> b.it.plus(0, 24, false), STATE);
        refused("BOTTOM of none", () -> noProofs(), b -> b.it.bottom(0), STATE);
    }

    private static void askedOfTwoPremises() {
        Call with = b -> b.it.with(0, 1, 27);
        allowed("WITH of a, b", tops(row(0), row(2)), with, 3);
        allowed("WITH beside the same", tops(row(0, 4, 4, 6), row(4, 6, 2, 4)), with, 3);
        refused("WITH beside one of them more often", tops(row(0, 4, 4, 6), row(2, 4, 6, 6)), with, STATE);
        refused("WITH beside more", tops(row(0, 4), row(2, 4, 4)), with, STATE);
        refused("WITH beside less", tops(row(0, 4), row(2)), with, STATE);
        refused("WITH of b, a", tops(row(2), row(0)), with, STATE);
        refused("WITH of a alone", tops(row(0), row(0)), with, STATE);
        refused("WITH of b alone", tops(row(2), row(2)), with, STATE);
        Call times = b -> b.it.times(0, 1, 28);
        allowed("TIMES of a, b", tops(row(0), row(2)), times, 3);
        allowed("TIMES beside others", tops(row(0, 4), row(2, 6, 6)), times, 3);
        refused("TIMES of b, a", tops(row(2), row(0)), times, STATE);
        refused("TIMES of a alone", tops(row(0), row(0)), times, STATE);
        refused("TIMES of b alone", tops(row(2), row(2)), times, STATE);
        refused("TIMES of both in the first", tops(row(0, 2), row(4)), times, STATE);
        allowed("CUT of a", tops(row(0), row(1)), b -> b.it.cut(0, 1, 0), 3);
        allowed("CUT of ~a", tops(row(1), row(0)), b -> b.it.cut(0, 1, 1), 3);
        refused("CUT of a, the dual first", tops(row(1), row(0)), b -> b.it.cut(0, 1, 0), STATE);
        refused("CUT of a, no dual", tops(row(0), row(0)), b -> b.it.cut(0, 1, 0), STATE);
        refused("CUT of a, the dual alone", tops(row(1), row(1)), b -> b.it.cut(0, 1, 0), STATE);
        allowed("CUT of T", tops(row(18), row(18)), b -> b.it.cut(0, 1, 19), 3);
        allowed("CUT of 0", tops(row(18), row(18)), b -> b.it.cut(0, 1, 18), 3);
        allowed("CUT of the last formula", tops(row(29), row(28)), b -> b.it.cut(0, 1, 29), 3);
    }

    /** One of two slots has no proof, whichever it is. */
    private static void oneProofOfTwo() {
        for (int slot = 0; slot < 2; slot++) {
            int gone = slot;
            Supplier<Bench> made = () -> {
                Bench b = letters(1, 1).get();
                b.it.drop(gone);
                return b;
            };
            refused("with, none in " + slot, made, b -> b.it.with(0, 1, WITH), STATE);
            refused("times, none in " + slot, made, b -> b.it.times(0, 1, TIMES), STATE);
            refused("cut, none in " + slot, made, b -> b.it.cut(0, 1, 0), STATE);
            refused("cut of itself", made, b -> b.it.cut(gone, gone, 0), STATE);
        }
    }

    private static void copies() {
        Call[] rules = {b -> b.it.with(0, 1, WITH), b -> b.it.times(0, 1, TIMES), b -> b.it.cut(0, 1, 0)};
        for (Call rule : rules) {
            Bench b = letters(3, 3).get();
            due("nodes", b.answerOf(rule), 7);
            String before = b.proof(0);
            due("the other slot", b.proof(1), "9/0[0 1] 0/0[0 1] 0/0[0 1]");
            b.it.bottom(1);
            b.it.step(1);
            b.it.drop(1);
            due("what the other slot gets is not seen here", b.proof(0), before);
            b.it.one(1);
            due("nor what it gets later", b.proof(0), before);
        }
    }

    private static void dropped() {
        for (int nodes : new int[] {1, 3, 4, 99, 100}) {
            Bench b = letters(nodes, 1).get();
            due("nodes", b.it.drop(0), nodes);
            due("without one", b.it.drop(0), 0);
            due("it has no node", b.answerOf(x -> x.it.node(0, 0, 0)), INDEX);
            due("it gets no BOTTOM", b.answerOf(x -> x.it.bottom(0)), STATE);
            due("nor a STEP", b.answerOf(x -> x.it.step(0)), STATE);
            due("the other one", b.proof(1), "0/0[0 1]");
            due("it gets another", b.it.one(0), 1);
        }
    }

    private static void countOfNodes() {
        for (int nodes : new int[] {1, 3, 4, 50, 99, 100}) {
            Bench b = letters(nodes, 1).get();
            due("nodes", b.it.nodes(0), nodes);
            due("CUTS", b.it.cuts(0), (nodes - 1) / 2);
            due("without one", b.it.nodes(2) + b.it.cuts(2), 0);
        }
        due("a CUT below others counts too", letters(3, 1).get().it.cuts(0), 1);
    }

    private static void placesOfNodes() {
        for (int nodes : new int[] {1, 3, 99, 100}) {
            for (int k : new int[] {LEAST, -1, nodes, nodes + 1, 100, 101, GREATEST}) {
                for (int what = 0; what < 4; what++) {
                    int any = what;
                    refused("node " + k + " of " + nodes, letters(nodes, 1), b -> b.it.node(0, k, any), INDEX);
                }
                refused("conclusion " + k + " of " + nodes, letters(nodes, 1), b -> b.it.conclusion(0, k, 0), INDEX);
                refused("conclusion " + k + " at -1", letters(nodes, 1), b -> b.it.conclusion(0, k, -1), INDEX);
            }
            allowed("the first node", letters(nodes, 1), b -> b.it.node(0, 0, 3), nodes);
            allowed("the last node", letters(nodes, 1), b -> b.it.node(0, nodes - 1, 3), 1);
            allowed("its conclusion", letters(nodes, 1), b -> b.line(0, nodes - 1), "0 1");
        }
        for (int what = 0; what < 4; what++) {
            int any = what;
            refused("a node of no proof", letters(1, 1), b -> b.it.node(2, 0, any), INDEX);
        }
        refused("a conclusion of no proof", letters(1, 1), b -> b.it.conclusion(2, 0, 0), INDEX);
    }

    private static void whatOfNodes() {
        for (int what : new int[] {LEAST, -1, 4, 5, GREATEST}) {
            refused("what " + what, letters(3, 1), b -> b.it.node(0, 0, what), ARGUMENT);
            refused("what " + what + " of no node", letters(3, 1), b -> b.it.node(0, 3, what), ARGUMENT);
            refused("what " + what + " of no proof", letters(3, 1), b -> b.it.node(2, 0, what), ARGUMENT);
        }
        int[] want = {9, 0, 2, 3};
        for (int what = 0; what < 4; what++) {
            int any = what;
            allowed("what " + what, letters(3, 1), b -> b.it.node(0, 0, any), want[what]);
        }
    }

    private static void placesOfConclusions() {
        for (int many = 0; many <= 7; many++) {
            int[] draft = Arrays.copyOf(row(1, 3, 5, 7, 9, 11, 13), many);
            Bench b = tops(draft, row()).get();
            due("how many", b.it.node(0, 0, 2), many + 1);
            for (int i = 0; i < many; i++) {
                due(i + " of " + many, b.it.conclusion(0, 0, i), draft[i]);
            }
            due("the last of " + many, b.it.conclusion(0, 0, many), 19);
            for (int i : new int[] {LEAST, -1, many + 1, 8, 9, 20, GREATEST}) {
                due(i + " of " + many, b.it.conclusion(0, 0, i), NONE);
            }
        }
    }

    public static void main(String[] args) {
        test("SLOTS 0 .. 3 may have a proof each", () -> slots());
        test("SLOTS: each has its own proof", () -> otherSlots());
        test("none with more than 100 nodes, of one premise", () -> hundredOfOnePremise());
        test("none with more than 100 nodes, of two premises", () -> hundredOfTwoPremises());
        test("none with a conclusion of more than 8 formulas", () -> eightFormulas());
        test("none with a conclusion of more than 12 leaves", () -> twelveLeaves());
        test("promise 11: also when k is not 0 .. 7", () -> lettersOfAxioms());
        test("promises 11, 12, 13, 21: in place of what it has", () -> placeOfAnother());
        test("promises 15 to 19: also when n is not A % B (A + B, A & B, A * B)", () -> formulasOfRules());
        test("promises 14 to 16: there is none, or it is not as the rule asks", () -> askedOfOnePremise());
        test("promises 17 to 19: it is not as the rule asks", () -> askedOfTwoPremises());
        test("promises 17 to 19: there is none", () -> oneProofOfTwo());
        test("promises 17 to 19: a copy of the proof in another slot (or the same one)", () -> copies());
        test("promise 20: how many nodes it had (0 without one)", () -> dropped());
        test("promises 24, 25: 0 without one", () -> countOfNodes());
        test("promises 26, 27: there is no such node", () -> placesOfNodes());
        test("promise 26: also for another what", () -> whatOfNodes());
        test("promise 27: NONE when there is none", () -> placesOfConclusions());
        end("sentences on proofs");
    }
}
