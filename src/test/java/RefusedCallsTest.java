import java.util.function.Supplier;

/** The last sentences of Terms: which exception is thrown, and that refused calls change nothing; and 512 calls. */
public final class RefusedCallsTest extends Check {
    private static final int TIMES = Examples.TIMES_OF_LETTER;
    private static final int PAR = Examples.PAR_OF_LETTER;
    private static final int PLUS = Examples.PLUS_OF_LETTER;
    private static final int WITH = Examples.WITH_OF_LETTER;
    private static final int NO_FORMULA = 80;
    private static final int MOST_CALLS = 512;

    /** Proofs of a, ~a of 100 nodes in slots 0 and 1, none in 2 and 3, and (b%b), (b+b), (b&b), (b*b) from 28 on. */
    private static Bench hundreds() {
        Bench b = Examples.letterProofs(100, 100);
        for (String text : new String[] {"(b%b)", "(b+b)", "(b&b)", "(b*b)"}) {
            b.read(text);
        }
        return b;
    }

    private static Bench fullDraft() {
        Bench b = hundreds();
        b.setDraft(0, 1, 2, 3, 4, 5, 6, 7);
        return b;
    }

    private static void argumentBeforeState() {
        Supplier<Bench> thirty = () -> Examples.pairs(30);
        refused("make: no formula, no room", thirty, b -> b.it.make(0, NO_FORMULA, 0), ARGUMENT);
        refused("make: no second formula, no room", thirty, b -> b.it.make(0, 0, NO_FORMULA), ARGUMENT);
        refused("make: no sign, no room", thirty, b -> b.it.make(4, 0, 0), ARGUMENT);
        refused("make: no sign, many leaves", () -> Examples.sizes(), b -> b.it.make(-1, 32, 32), ARGUMENT);
        refused("put: no formula, no room", () -> fullDraft(), b -> b.it.put(NO_FORMULA), ARGUMENT);
        Supplier<Bench> empty = () -> fullDraft();
        refused("par: no formula, no proof", empty, b -> b.it.par(2, NO_FORMULA), ARGUMENT);
        refused("par: another sign, no proof", empty, b -> b.it.par(2, TIMES), ARGUMENT);
        refused("plus: no formula, no proof", empty, b -> b.it.plus(2, NO_FORMULA, true), ARGUMENT);
        refused("plus: another sign, no proof", empty, b -> b.it.plus(2, WITH, true), ARGUMENT);
        refused("with: no formula, no proof", empty, b -> b.it.with(2, 3, NO_FORMULA), ARGUMENT);
        refused("with: another sign, no proof", empty, b -> b.it.with(2, 3, PLUS), ARGUMENT);
        refused("with: no proof, no slot", empty, b -> b.it.with(2, 4, WITH), ARGUMENT);
        refused("times: no formula, no proof", empty, b -> b.it.times(2, 3, NO_FORMULA), ARGUMENT);
        refused("times: another sign, no proof", empty, b -> b.it.times(2, 3, PAR), ARGUMENT);
        refused("times: no proof, no slot", empty, b -> b.it.times(2, -1, TIMES), ARGUMENT);
        refused("cut: no formula, no proof", empty, b -> b.it.cut(2, 3, NO_FORMULA), ARGUMENT);
        refused("cut: no proof, no slot", empty, b -> b.it.cut(2, 4, 0), ARGUMENT);
        refused("par: another sign, no part", empty, b -> b.it.par(0, 30), ARGUMENT);
        refused("with: another sign, no part", empty, b -> b.it.with(0, 1, 28), ARGUMENT);
    }

    private static void argumentBeforeTooMuch() {
        Supplier<Bench> made = () -> fullDraft();
        refused("top: no slot, nine formulas", made, b -> b.it.top(4), ARGUMENT);
        refused("par: another sign, 101 nodes", made, b -> b.it.par(0, TIMES), ARGUMENT);
        refused("plus: another sign, 101 nodes", made, b -> b.it.plus(0, WITH, false), ARGUMENT);
        refused("with: another sign, 201 nodes", made, b -> b.it.with(0, 1, PLUS), ARGUMENT);
        refused("times: another sign, 201 nodes", made, b -> b.it.times(0, 1, PAR), ARGUMENT);
        refused("cut: no formula, 201 nodes", made, b -> b.it.cut(0, 1, NO_FORMULA), ARGUMENT);
        refused("cut: no slot, 201 nodes", made, b -> b.it.cut(0, 4, 0), ARGUMENT);
    }

    private static void stateBeforeTooMuch() {
        Supplier<Bench> made = () -> fullDraft();
        refused("par: no part, 101 nodes", made, b -> b.it.par(0, 29), STATE);
        refused("LEFT: no part, 101 nodes", made, b -> b.it.plus(0, 30, false), STATE);
        refused("RIGHT: no part, 101 nodes", made, b -> b.it.plus(0, 30, true), STATE);
        refused("with: no part, 201 nodes", made, b -> b.it.with(0, 1, 33), STATE);
        refused("with: no other proof, 100 nodes", made, b -> b.it.with(0, 2, WITH), STATE);
        refused("with: no proof, 100 nodes", made, b -> b.it.with(2, 0, WITH), STATE);
        refused("times: no part, 201 nodes", made, b -> b.it.times(0, 1, 34), STATE);
        refused("times: no other proof, 100 nodes", made, b -> b.it.times(0, 3, TIMES), STATE);
        refused("cut: no such formula there, 201 nodes", made, b -> b.it.cut(0, 1, 2), STATE);
        refused("cut: no other proof, 100 nodes", made, b -> b.it.cut(0, 3, 0), STATE);
        refused("with: beside other formulas, 101 nodes", () -> besideOthers(), b -> b.it.with(0, 1, WITH), STATE);
        refused("all is as the rule asks", made, b -> b.it.with(0, 1, WITH), TOO_MUCH);
    }

    private static Bench besideOthers() {
        Bench b = Examples.letterProofs(51, 51);
        b.it.bottom(1);
        return b;
    }

    private static void argumentBeforeIndex() {
        Supplier<Bench> made = () -> hundreds();
        refused("node: no slot, no node, no what", made, b -> b.it.node(4, 100, 4), ARGUMENT);
        refused("node: no slot, no node", made, b -> b.it.node(-1, 100, 0), ARGUMENT);
        refused("node: no node, no what", made, b -> b.it.node(0, 100, 4), ARGUMENT);
        refused("node: no proof, no what", made, b -> b.it.node(2, 0, -1), ARGUMENT);
        refused("node: no node", made, b -> b.it.node(0, 100, 3), INDEX);
        refused("conclusion: no slot, no node", made, b -> b.it.conclusion(4, 100, 0), ARGUMENT);
        refused("conclusion: no node, no formula", made, b -> b.it.conclusion(0, 100, 9), INDEX);
        refused("about: no formula, no what", made, b -> b.it.about(NO_FORMULA, 4), ARGUMENT);
        refused("axiom: no slot, no letter", made, b -> b.it.axiom(4, 8), ARGUMENT);
    }

    /** Refused again and again; what is there, and the text that is begun, stay. */
    private static void refusedManyTimes() {
        Call[] calls = {
            b -> b.it.type(Bench.packed("bbbbbbb ")), b -> b.it.make(0, 1, NO_FORMULA), b -> b.it.make(0, 32, 0),
            b -> b.it.put(0), b -> b.it.cut(0, 0, 0), b -> b.it.prove(0), b -> b.it.par(0, 33), b -> b.it.step(1),
        };
        Bench b = Examples.sizes();
        Examples.letterProof(b, 0, 51);
        b.setDraft(32);
        b.typed("(a*");
        String before = b.all();
        for (int i = 0; i < MOST_CALLS; i++) {
            Object answer = b.answerOf(calls[i % calls.length]);
            due("refused", answer.equals(false) || answer instanceof Class, true);
        }
        due("what is there", b.all(), before);
        due("the rest of the text", b.it.type(Bench.packed("b)")), true);
        due("the text", b.it.read(), 20);
    }

    /** Rounds of calls that leave the object as it was answer the same up to the last call of all. */
    private static void lastCall() {
        Call[] round = {
            b -> b.it.type(Bench.packed("(a*b)")), b -> b.it.read(), b -> b.it.put(20), b -> b.it.prove(0),
            b -> b.it.axiom(0, 0), b -> b.it.cut(0, 0, 0), b -> b.it.eliminate(0), b -> b.it.take(0),
        };
        Object[] want = {true, 20, 1, false, 1, 3, 1, 20};
        Bench b = new Bench();
        for (int i = 0; i < MOST_CALLS; i++) {
            due("call " + (i + 1), b.answerOf(round[i % round.length]), want[i % round.length]);
        }
    }

    public static void main(String[] args) {
        test("the first that is due is thrown: wrong arguments, then no room", () -> argumentBeforeState());
        test("the first that is due is thrown: wrong arguments, then too much", () -> argumentBeforeTooMuch());
        test("the first that is due is thrown: not as the rule asks, then too much", () -> stateBeforeTooMuch());
        test("the first that is due is thrown: wrong arguments, then no such node", () -> argumentBeforeIndex());
        test("A call that throws, or answers false, changes nothing", () -> refusedManyTimes());
        test("An object is used for at most 512 calls", () -> lastCall());
        end("sentences on refused calls");
    }
}
