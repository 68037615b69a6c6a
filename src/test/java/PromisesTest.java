import java.util.function.IntFunction;

/** One method for each promise of the document, by its number. */
public final class PromisesTest extends Check {
    private static void promise1() {
        Bench b = new Bench();
        due("all", b.all(), "20 |  |  |  |  | ");
        due("reading no text", b.it.read(), -1);
        for (int slot = 0; slot < 4; slot++) {
            due("nodes", b.it.nodes(slot), 0);
        }
    }

    private static void promise2() {
        Bench b = new Bench();
        due("nothing", b.it.type(0), true);
        due("nothing before a 0", b.it.type(0x6100), true);
        due("no text still", b.it.read(), -1);
        due("the lowest bits first", b.it.type(Bench.packed("(a*b)")), true);
        due("(a*b)", b.written(b.it.read()), "(a*b)");
        due("up to a 0", b.it.type(0xFF00_0000_0000_0061L | 0x20_0000L), true);
        due("a", b.it.read(), 0);
        due("behind each other", b.typed("~~") && b.typed("b"), true);
        due("b", b.it.read(), 2);
        for (int c : new int[] {1, 32, 127, 128, 255}) {
            due("character " + c, b.it.type(c), false);
            due("a character " + c + " behind others", b.it.type(0x6161L | (long) c << 16), false);
        }
        due("the highest bits", b.it.type(0xFF61_6161_6161_6161L), false);
        due("none of it is there", b.it.read(), -1);
        due("the least and the greatest", b.it.type(33) && b.it.type(126), true);
        due("!~", b.it.read(), -1);
        due("56", b.typed("~".repeat(56)), true);
        due("60", b.typed("~~~~"), true);
        due("61", b.it.type('a'), false);
        due("60 and nothing", b.it.type(0), true);
        due("60 are there", b.it.read(), -61);
        due("57", b.typed("~".repeat(57)), true);
        due("57 and 4", b.it.type(Bench.packed("~~~a")), false);
        due("57 and 3", b.it.type(Bench.packed("~~a")), true);
        due("59 duals", b.it.read(), 1);
    }

    private static void promise3() {
        Bench b = new Bench();
        String simple = "abcdefgh1F0T";
        for (int i = 0; i < simple.length(); i++) {
            int n = i < 8 ? 2 * i : 8 + i;
            due(simple.substring(i, i + 1), b.read(simple.substring(i, i + 1)), n);
            due("its dual", b.read("~" + simple.charAt(i)), n ^ 1);
        }
        due("the left part first", b.read("((a*b)%(c+d))"), 25);
        due("(a*b)", b.read("(a*b)"), 20);
        due("(c+d)", b.read("(c+d)"), 22);
        due("the dual", b.read("~((a*b)%(c+d))"), 24);
        due("the dual written otherwise", b.read("((~a%~b)*(~c&~d))"), 24);
        due("formulas", b.it.formulas(), 26);
        due("duals of duals", b.read("~~(~~a*~~~~b)"), 20);
        due("nothing is left of the text", b.it.read(), -1);
        faults(b);
        due("formulas", b.it.formulas(), 26);
        tooMuch();
    }

    private static void faults(Bench b) {
        String[] texts = {
            "i", ")", "*", "aa", "a)", "(a)", "(a*b", "(a*b))", "(a**b)", "(a~b)", "(a*)", "()", "~", "~)", "(", "(a",
            "(a*", "(a*~", "A", "(e*(f*g)", "(e*(f*g))h", "2", "t", "f1",
            "((((((((a", "(((((((((a", "~(~(~(~(~(~(~(~(~(",
        };
        int[] places = {
            0, 0, 0, 1, 1, 2, 4, 5, 3, 2, 3, 1, 1, 1, 1, 2, 3, 4, 0, 8, 9, 0, 0, 1, 9, 8, 17,
        };
        for (int i = 0; i < texts.length; i++) {
            due("the fault of " + texts[i], b.read(texts[i]), -1 - places[i]);
        }
        String deep = "((((((((a*b)*b)*b)*b)*b)*b)*b)*a)";
        due("eight open brackets, but nine leaves", b.read(deep), -100);
        due("a fault behind too many leaves", b.read(deep + "a"), -1 - deep.length());
    }

    private static void tooMuch() {
        Bench b = new Bench();
        due("eight leaves", b.read("(((a*b)*(c*d))*((e*f)*(g*h)))"), 32);
        due("nine leaves", b.read("((((a*a)*(c*d))*((e*f)*(g*h)))*a)"), -100);
        due("none is made", b.it.formulas(), 34);
        for (int k = 0; k < 22; k++) {
            b.it.make(2, k % 8, 8 + k / 8);
        }
        due("29 pairs", b.it.formulas(), 78);
        due("two are too many", b.read("((h+1)*(h+0))"), -100);
        due("none of them is made", b.it.formulas(), 78);
        due("the 30th", b.read("(h+1)"), 78);
        due("a 31st", b.read("(h+0)"), -100);
        due("what is there", b.read("~((a*b)*(c*d))"), 25);
        due("a simple one", b.read("h"), 14);
    }

    private static void promise4() {
        Bench b = new Bench();
        due("a*b", b.it.make(0, 0, 2), 20);
        due("~a%~b", b.it.make(1, 1, 3), 21);
        due("a%b", b.it.make(1, 0, 2), 23);
        due("its dual", b.it.make(0, 1, 3), 22);
        due("a+b", b.it.make(2, 0, 2), 24);
        due("a&b", b.it.make(3, 0, 2), 27);
        due("b*a", b.it.make(0, 2, 0), 28);
        due("a*b again", b.it.make(0, 0, 2), 20);
        for (int sign : new int[] {-1, 4, Integer.MIN_VALUE, Integer.MAX_VALUE}) {
            refused(b, "sign " + sign, ARGUMENT, x -> b.it.make(sign, 0, 0));
        }
        for (int n : new int[] {-1, 30, 80, Integer.MIN_VALUE, Integer.MAX_VALUE}) {
            refused(b, "a part " + n, ARGUMENT, x -> b.it.make(0, n, 0));
            refused(b, "a second part " + n, ARGUMENT, x -> b.it.make(0, 0, n));
        }
        int four = b.it.make(0, 20, 20);
        due("eight leaves", b.it.make(0, four, four), 32);
        refused(b, "nine leaves", STATE, x -> b.it.make(0, 32, 0));
        for (int k = 0; k < 23; k++) {
            due("pair " + (7 + k), b.it.make(3, k % 8, 8 + k / 8), 35 + 2 * k);
        }
        refused(b, "a 31st pair", STATE, x -> b.it.make(0, 0, 19));
        refused(b, "a wrong sign comes before it", ARGUMENT, x -> b.it.make(4, 0, 19));
        due("what is there", b.it.make(1, 0, 2), 23);
    }

    private static void promise5() {
        Bench b = new Bench();
        due("at first", b.it.formulas(), 20);
        b.it.make(0, 0, 0);
        due("with a pair", b.it.formulas(), 22);
        b.it.make(1, 1, 1);
        due("with its dual", b.it.formulas(), 22);
        b.read("((a+a)*1)");
        due("with two pairs more", b.it.formulas(), 26);
    }

    private static void promise6() {
        Bench b = new Bench();
        int n = b.read("((a*b)+1)");
        int[] want = {3, 2, 20, 16};
        int[] dual = {3, 3, 21, 17};
        int[] simple = {1, NONE, NONE, NONE};
        for (int what = 0; what < 4; what++) {
            due("about " + what, b.it.about(n, what), want[what]);
            due("of the dual " + what, b.it.about(n ^ 1, what), dual[what]);
            for (int k = 0; k < 20; k++) {
                due("of simple ones " + what, b.it.about(k, what), simple[what]);
            }
        }
        due("*", b.it.about(20, 1), 0);
        due("%", b.it.about(21, 1), 1);
        refused(b, "what -1", ARGUMENT, x -> b.it.about(0, -1));
        refused(b, "what 4", ARGUMENT, x -> b.it.about(0, 4));
        refused(b, "formula -1", ARGUMENT, x -> b.it.about(-1, 0));
        refused(b, "formula 24", ARGUMENT, x -> b.it.about(24, 0));
    }

    private static void promise7() {
        Bench b = new Bench();
        String[] simple = {
            "a", "~a", "b", "~b", "c", "~c", "d", "~d", "e", "~e", "f", "~f", "g", "~g", "h", "~h", "1", "F", "0", "T",
        };
        for (int n = 0; n < 20; n++) {
            due("formula " + n, b.written(n), simple[n]);
        }
        String longest = "(((~a*~b)%(~c+~d))&((~e*~f)%(~g+~h)))";
        int n = b.read(longest);
        due("the longest", b.written(n), longest);
        due("its dual", b.written(n ^ 1), "(((a%b)*(c&d))+((e%f)*(g&h)))");
        due("behind its end", (int) b.it.written(n, 37), 0);
        due("far behind its end", (int) b.it.written(n, Integer.MAX_VALUE), 0);
        due("before it", (int) b.it.written(n, -1), 0);
        for (String deep : new String[] {"(a+(b+(c+(1+(0+(T+(F+~h)))))))", "(((((((a*b)*c)*1)*0)*T)*F)*~h)"}) {
            due("a deep one", b.written(b.read(deep)), deep);
        }
        refused(b, "formula -1", ARGUMENT, x -> b.it.written(-1, 0));
        refused(b, "formula 99", ARGUMENT, x -> b.it.written(99, 0));
    }

    private static void promise8() {
        Bench b = new Bench();
        due("the first", b.it.put(5), 1);
        due("a lower one", b.it.put(2), 2);
        due("the same", b.it.put(5), 3);
        due("one between", b.it.put(3), 4);
        due("in rising order", b.draft(), "2 3 5 5");
        refused(b, "formula -1", ARGUMENT, x -> b.it.put(-1));
        refused(b, "formula 20", ARGUMENT, x -> b.it.put(20));
        b.it.make(0, 0, 0);
        due("two leaves", b.it.put(20), 5);
        due("two leaves more", b.it.put(21), 6);
        refused(b, "a ninth leaf", STATE, x -> b.it.put(0));
        b.setDraft(0, 0, 0, 0, 0, 0, 0);
        refused(b, "two for the eighth leaf", STATE, x -> b.it.put(20));
        due("the eighth", b.it.put(19), 8);
        refused(b, "a ninth formula", STATE, x -> b.it.put(19));
    }

    private static void promise9() {
        Bench b = new Bench();
        due("none", b.it.take(0), NONE);
        b.setDraft(4, 1, 4, 16);
        due("-1", b.it.take(-1), NONE);
        due("4", b.it.take(4), NONE);
        due("far", b.it.take(Integer.MAX_VALUE), NONE);
        due("1", b.it.take(1), 4);
        due("the others", b.draft(), "1 4 16");
        due("2", b.it.take(2), 16);
        due("0", b.it.take(0), 1);
        due("the last", b.draft(), "4");
    }

    private static void promise10() {
        Bench b = new Bench();
        due("none", b.it.draft(0), NONE);
        b.setDraft(9, 0);
        due("0", b.it.draft(0), 0);
        due("1", b.it.draft(1), 9);
        due("2", b.it.draft(2), NONE);
        due("-1", b.it.draft(-1), NONE);
        due("far", b.it.draft(Integer.MIN_VALUE), NONE);
    }

    private static void refusedSlots(Bench b, String what, IntFunction<Call> of) {
        for (int slot : new int[] {-1, 4, Integer.MIN_VALUE, Integer.MAX_VALUE}) {
            refused(b, what + " slot " + slot, ARGUMENT, of.apply(slot));
        }
    }

    private static void promise11() {
        Bench b = new Bench();
        for (int k = 0; k < 8; k++) {
            due("nodes", b.it.axiom(k % 4, k), 1);
            due("the axiom", b.proof(k % 4), "0/" + 2 * k + "[" + 2 * k + " " + (2 * k + 1) + "]");
        }
        refusedSlots(b, "axiom", slot -> x -> b.it.axiom(slot, 0));
        refused(b, "letter -1", ARGUMENT, x -> b.it.axiom(0, -1));
        refused(b, "letter 8", ARGUMENT, x -> b.it.axiom(0, 8));
    }

    private static void promise12() {
        Bench b = new Bench();
        b.it.axiom(3, 0);
        b.it.bottom(3);
        due("nodes", b.it.one(3), 1);
        due("in place of what was there", b.proof(3), "1/16[16]");
        refusedSlots(b, "one", slot -> x -> b.it.one(slot));
    }

    private static void promise13() {
        Bench b = new Bench();
        due("without others", b.it.top(0), 1);
        due("T", b.proof(0), "2/19[19]");
        b.setDraft(b.read("(a*b)"), 19, 18, 0);
        due("with others", b.it.top(0), 1);
        due("in rising order", b.proof(0), "2/19[0 18 19 19 20]");
        due("the draft stays", b.draft(), "0 18 19 20");
        refusedSlots(b, "top", slot -> x -> b.it.top(slot));
        b.setDraft(0, 0, 0, 0, 0, 0, 0);
        due("eight formulas", b.it.top(1), 1);
        b.it.put(0);
        refused(b, "nine formulas", TOO_MUCH, x -> b.it.top(1));
        refused(b, "a wrong slot comes first", ARGUMENT, x -> b.it.top(4));
    }

    private static void promise14() {
        Bench b = new Bench();
        refused(b, "no proof", STATE, x -> b.it.bottom(0));
        refusedSlots(b, "bottom", slot -> x -> b.it.bottom(slot));
        b.it.one(0);
        due("nodes", b.it.bottom(0), 2);
        due("twice", b.it.bottom(0), 3);
        due("the proof", b.proof(0), "3/17[16 17 17] 3/17[16 17] 1/16[16]");
        for (int i = 0; i < 5; i++) {
            b.it.bottom(0);
        }
        refused(b, "nine formulas", TOO_MUCH, x -> b.it.bottom(0));
        leavesOfConclusions();
    }

    private static void leavesOfConclusions() {
        Bench b = new Bench();
        int eight = b.read("(((a%a)%(a%a))%((a%a)%(a%a)))");
        b.setDraft(eight);
        b.it.top(0);
        b.it.bottom(0);
        b.it.bottom(0);
        due("twelve leaves", b.it.bottom(0), 4);
        refused(b, "thirteen leaves", TOO_MUCH, x -> b.it.bottom(0));
    }

    private static void promise15() {
        Bench b = new Bench();
        int n = b.read("(a%~a)");
        int twice = b.read("(F%F)");
        int plus = b.read("(a+~a)");
        refused(b, "no proof", STATE, x -> b.it.par(0, n));
        b.it.axiom(0, 0);
        for (int other : new int[] {n ^ 1, plus, plus ^ 1, 0, 17, -1, 99}) {
            refused(b, "formula " + other, ARGUMENT, x -> b.it.par(0, other));
            refused(b, "formula " + other + " without a proof", ARGUMENT, x -> b.it.par(1, other));
        }
        refusedSlots(b, "par", slot -> x -> b.it.par(slot, n));
        b.it.bottom(0);
        refused(b, "one part of two that are the same", STATE, x -> b.it.par(0, twice));
        due("nodes", b.it.par(0, n), 3);
        due("the proof", b.proof(0), "4/21[17 21] 3/17[0 1 17] 0/0[0 1]");
        refused(b, "no part is there now", STATE, x -> b.it.par(0, n));
        b.it.bottom(0);
        due("both parts the same", b.it.par(0, twice), 5);
        due("its conclusion", b.line(0, 0), "21 23");
        b.it.axiom(1, 1);
        refused(b, "parts of another letter", STATE, x -> b.it.par(1, n));
        hundred();
    }

    /** A proof of 100 nodes in slot 0, and of 99 in slot 1, which get no rule of one premise more, or one. */
    private static void hundred() {
        Bench b = new Bench();
        int n = b.read("(a%~a)");
        int plus = b.read("(a+a)");
        b.it.axiom(0, 0);
        b.it.axiom(1, 0);
        for (int i = 0; i < 49; i++) {
            b.it.cut(0, 1, 0);
        }
        due("99 nodes", b.it.nodes(0), 99);
        refused(b, "two nodes more", TOO_MUCH, x -> b.it.cut(0, 1, 0));
        refused(b, "what is not as the rule asks comes first", STATE, x -> b.it.cut(0, 1, 2));
        due("100 nodes", b.it.bottom(0), 100);
        refused(b, "BOTTOM", TOO_MUCH, x -> b.it.bottom(0));
        refused(b, "PAR", TOO_MUCH, x -> b.it.par(0, n));
        refused(b, "LEFT", TOO_MUCH, x -> b.it.plus(0, plus, false));
        due("drop", b.it.drop(0), 100);
    }

    private static void promise16() {
        Bench b = new Bench();
        int n = b.read("(a+b)");
        int times = b.read("(a*b)");
        refused(b, "no proof", STATE, x -> b.it.plus(0, n, false));
        b.it.axiom(0, 0);
        b.it.axiom(1, 1);
        refusedSlots(b, "plus", slot -> x -> b.it.plus(slot, n, true));
        for (int other : new int[] {n ^ 1, times, times ^ 1, 0, 16, -1, 99}) {
            refused(b, "formula " + other, ARGUMENT, x -> b.it.plus(0, other, false));
        }
        refused(b, "RIGHT of a", STATE, x -> b.it.plus(0, n, true));
        refused(b, "LEFT of b", STATE, x -> b.it.plus(1, n, false));
        due("LEFT", b.it.plus(0, n, false), 2);
        due("RIGHT", b.it.plus(1, n, true), 2);
        due("the proof by LEFT", b.proof(0), "6/20[1 20] 0/0[0 1]");
        due("the proof by RIGHT", b.proof(1), "7/20[3 20] 0/2[2 3]");
        int eight = b.read("(((a%a)%(a%a))%((a%a)%(a%a)))");
        int five = b.read("(a+((a%a)%(a%a)))");
        b.setDraft(eight);
        b.it.top(2);
        b.it.bottom(2);
        b.it.bottom(2);
        b.it.bottom(2);
        int last = b.read("(F+F)");
        refused(b, "thirteen leaves", TOO_MUCH, x -> b.it.plus(2, last, true));
        refused(b, "a part that is not there comes first", STATE, x -> b.it.plus(2, five, true));
    }

    private static void promise17() {
        Bench b = new Bench();
        int n = b.read("(a&b)");
        int par = b.read("(a%b)");
        int both = b.read("(~a&~a)");
        int plus = b.read("(~a+~b)");
        due("the dual", plus, n ^ 1);
        b.it.axiom(0, 0);
        refused(b, "no other proof", STATE, x -> b.it.with(0, 1, n));
        refused(b, "no proof", STATE, x -> b.it.with(1, 0, n));
        b.it.axiom(1, 1);
        refusedSlots(b, "with", slot -> x -> b.it.with(slot, 0, n));
        refusedSlots(b, "with other", slot -> x -> b.it.with(0, slot, n));
        for (int other : new int[] {plus, par, par ^ 1, 19, -1, 99}) {
            refused(b, "formula " + other, ARGUMENT, x -> b.it.with(0, 1, other));
        }
        refused(b, "other formulas beside the parts", STATE, x -> b.it.with(0, 1, n));
        b.it.plus(0, plus, false);
        refused(b, "other formulas beside one part", STATE, x -> b.it.with(0, 1, n));
        b.it.plus(1, plus, true);
        refused(b, "the parts the other way round", STATE, x -> b.it.with(1, 0, n));
        due("nodes", b.it.with(0, 1, n), 5);
        due("the proof", b.proof(0), "5/21[20 21] 6/20[0 20] 0/0[0 1] 7/20[2 20] 0/2[2 3]");
        due("the other slot", b.proof(1), "7/20[2 20] 0/2[2 3]");
        b.it.axiom(2, 0);
        due("with itself", b.it.with(2, 2, both), 3);
        due("its proof", b.proof(2), "5/25[0 25] 0/0[0 1] 0/0[0 1]");
        b.it.axiom(2, 0);
        b.it.axiom(3, 0);
        b.it.bottom(3);
        refused(b, "one formula more beside the second part", STATE, x -> b.it.with(2, 3, both));
        refused(b, "one formula more beside the first part", STATE, x -> b.it.with(3, 2, both));
        tooLargeWith();
    }

    private static void tooLargeWith() {
        Bench b = new Bench();
        int two = b.read("(a&a)");
        int four = b.it.make(3, two, two);
        int eight = b.it.make(3, four, four);
        int other = b.read("(~a&~a)");
        b.it.axiom(0, 0);
        b.it.with(0, 0, two);
        b.it.with(0, 0, four);
        b.it.with(0, 0, eight);
        due("15 nodes", b.it.with(0, 0, other), 31);
        due("63 nodes", b.it.with(0, 0, b.it.make(3, other, other)), 63);
        int next = b.it.make(3, b.it.make(3, other, other), b.it.make(3, other, other));
        refused(b, "127 nodes, 16 leaves", TOO_MUCH, x -> b.it.with(0, 0, next));
    }

    private static void promise18() {
        Bench b = new Bench();
        int n = b.read("(a*b)");
        int plus = b.read("(a+b)");
        b.it.axiom(0, 0);
        refused(b, "no other proof", STATE, x -> b.it.times(0, 1, n));
        refused(b, "no proof", STATE, x -> b.it.times(1, 0, n));
        b.it.axiom(1, 1);
        refusedSlots(b, "times", slot -> x -> b.it.times(slot, 0, n));
        refusedSlots(b, "times other", slot -> x -> b.it.times(0, slot, n));
        for (int other : new int[] {n ^ 1, plus, plus ^ 1, 0, -1, 99}) {
            refused(b, "formula " + other, ARGUMENT, x -> b.it.times(0, 1, other));
        }
        refused(b, "the parts the other way round", STATE, x -> b.it.times(1, 0, n));
        refused(b, "only the first part", STATE, x -> b.it.times(0, 0, n));
        due("nodes", b.it.times(0, 1, n), 3);
        due("the proof", b.proof(0), "8/20[1 3 20] 0/0[0 1] 0/2[2 3]");
        due("the other slot", b.proof(1), "0/2[2 3]");
        b.it.one(2);
        due("with itself", b.it.times(2, 2, b.read("(1*1)")), 3);
        int four = b.it.make(0, n, n);
        due("five formulas", b.it.times(0, 0, four), 7);
        int eight = b.it.make(0, four, four);
        refused(b, "nine formulas", TOO_MUCH, x -> b.it.times(0, 0, eight));
    }

    private static void promise19() {
        Bench b = new Bench();
        b.it.one(0);
        refused(b, "no other proof", STATE, x -> b.it.cut(0, 1, 16));
        refused(b, "no proof", STATE, x -> b.it.cut(1, 0, 16));
        b.it.axiom(1, 0);
        b.it.bottom(1);
        refusedSlots(b, "cut", slot -> x -> b.it.cut(slot, 0, 16));
        refusedSlots(b, "cut other", slot -> x -> b.it.cut(0, slot, 16));
        refused(b, "formula -1", ARGUMENT, x -> b.it.cut(0, 1, -1));
        refused(b, "formula 20", ARGUMENT, x -> b.it.cut(0, 1, 20));
        refused(b, "a formula that is not there", STATE, x -> b.it.cut(0, 1, 0));
        refused(b, "the dual one first", STATE, x -> b.it.cut(0, 1, 17));
        refused(b, "not in the other", STATE, x -> b.it.cut(0, 0, 16));
        due("nodes", b.it.cut(0, 1, 16), 4);
        due("the proof", b.proof(0), "9/16[0 1] 1/16[16] 3/17[0 1 17] 0/0[0 1]");
        due("of itself, the odd one", b.it.cut(0, 0, 1), 9);
        due("its conclusion", b.line(0, 0), "0 1");
        b.setDraft(0, 0, 0, 0, 1);
        b.it.top(2);
        refused(b, "ten formulas", TOO_MUCH, x -> b.it.cut(2, 2, 0));
        b.it.take(0);
        b.it.top(2);
        due("eight formulas", b.it.cut(2, 2, 0), 3);
    }

    private static void promise20() {
        Bench b = new Bench();
        due("none", b.it.drop(0), 0);
        b.it.one(0);
        b.it.bottom(0);
        b.it.one(1);
        due("two nodes", b.it.drop(0), 2);
        due("none now", b.it.drop(0), 0);
        due("the other slot", b.it.nodes(1), 1);
        due("no proof", b.proof(0), "");
        refusedSlots(b, "drop", slot -> x -> b.it.drop(slot));
    }

    private static void found(String want, int... draft) {
        Bench b = new Bench();
        for (String text : new String[] {"(a*b)", "(1+1)", "(a+b)", "(~a+c)", "(a*T)", "(T*a)", "(1*1)", "(T*T)"}) {
            b.read(text);
        }
        b.it.axiom(0, 7);
        b.setDraft(draft);
        due("found of " + b.draft(), b.it.prove(0), !want.isEmpty());
        due("the proof of " + b.draft(), b.proof(0), want.isEmpty() ? "0/14[14 15]" : want);
        due("the draft", b.it.draft(draft.length), NONE);
    }

    private static void promise21() {
        found("");
        found("0/4[4 5]", 5, 4);
        found("", 4, 4);
        found("", 5, 6);
        found("", 4);
        found("1/16[16]", 16);
        found("", 16, 16);
        found("", 17);
        found("", 18);
        found("2/19[0 16 18 19]", 16, 19, 18, 0);
        found("3/17[16 17 17] 3/17[16 17] 1/16[16]", 17, 16, 17);
        found("3/17[17 19] 2/19[19]", 19, 17);
        found("4/21[20 21] 8/20[1 3 20] 0/0[0 1] 0/2[2 3]", 20, 21);
        found("6/22[22] 1/16[16]", 22);
        found("7/24[3 24] 0/2[2 3]", 24, 3);
        found("6/24[24 26] 6/26[0 26] 0/0[0 1]", 26, 24);
        found("5/25[24 25] 6/24[1 24] 0/0[0 1] 7/24[3 24] 0/2[2 3]", 24, 25);
        found("8/28[1 2 28] 0/0[0 1] 2/19[2 19]", 28, 1, 2);
        found("8/30[1 2 30] 2/19[2 19] 0/0[0 1]", 30, 1, 2);
        found("8/32[32] 1/16[16] 1/16[16]", 32);
        found("8/34[0 2 34] 2/19[19] 2/19[0 2 19]", 34, 0, 2);
        found("8/34[34 34] 2/19[19] 2/19[19 34]", 34, 34);
        found("", 20, 1);
        found("", 20, 1, 3, 3);
        found("", 23, 17);
        Bench b = new Bench();
        b.setDraft(19);
        refusedSlots(b, "prove", slot -> x -> b.it.prove(slot));
        longSearches();
    }

    /** A proof that is among the largest for eight leaves, and a draft that takes long to be refused. */
    private static void longSearches() {
        Bench b = new Bench();
        b.setDraft("(1&(1&1))", "(F&(F&F))", "(F&F)");
        due("found", b.it.prove(0), true);
        due("its nodes", b.it.nodes(0), 59);
        due("a node that is not as its rule asks", new ProofChecker(b.it, 0).firstWrong(), -1);
        b.setDraft("(1*b)", "(1*~a)", "(1*~b)", "(F*1)");
        due("none", b.it.prove(1), false);
        due("none still", b.it.prove(1), false);
    }

    private static void stepped(Bench b, String what, String before, int cuts, String after) {
        due(what + " before", b.proof(0), before);
        due(what, b.it.step(0), cuts);
        due(what + " behind", b.proof(0), after);
        due(what + ": a node that is not as its rule asks", new ProofChecker(b.it, 0).firstWrong(), -1);
    }

    private static void promise22() {
        Bench b = new Bench();
        refusedSlots(b, "step", slot -> x -> b.it.step(slot));
        refused(b, "no proof", STATE, x -> b.it.step(0));
        b.it.one(0);
        due("no CUT", b.it.step(0), NONE);
        due("the proof", b.proof(0), "1/16[16]");
        stepsOfAxioms();
        stepsOfLeft();
        stepsOfRight();
        stepsOfUnits();
        stepsOfParts();
        firstCutOfSeveral();
        stepBeyondHundred();
    }

    private static void stepsOfAxioms() {
        Bench b = new Bench();
        b.it.axiom(0, 0);
        b.it.axiom(1, 0);
        b.it.bottom(1);
        b.it.cut(0, 1, 0);
        stepped(b, "L an AXIOM", "9/0[0 1 17] 0/0[0 1] 3/17[0 1 17] 0/0[0 1]", 0, "3/17[0 1 17] 0/0[0 1]");
        b.it.axiom(2, 0);
        b.it.cut(0, 2, 1);
        stepped(b, "R an AXIOM", "9/1[0 1 17] 3/17[0 1 17] 0/0[0 1] 0/0[0 1]", 0, "3/17[0 1 17] 0/0[0 1]");
    }

    /** The CUT of a of a proof by each rule, and of LEFT of an AXIOM. */
    private static Bench cutOfLeft(Call rules, Bench b) {
        b.read("(a+b)");
        b.it.axiom(1, 0);
        b.it.plus(1, 20, false);
        b.it.axiom(0, 0);
        rules.apply(b);
        b.it.cut(0, 1, 0);
        return b;
    }

    private static void stepsOfLeft() {
        String axiom = "0/0[0 1]";
        String left = "6/20[1 20] 0/0[0 1]";
        Bench b = new Bench();
        cutOfLeft(x -> b.it.put(0) + b.it.top(0), b);
        stepped(b, "L is TOP", "9/0[19 20] 2/19[0 19] " + left, 0, "2/19[19 20]");
        cutOfLeft(x -> b.it.bottom(0), b);
        stepped(b, "L is BOTTOM", "9/0[1 17 20] 3/17[0 1 17] " + axiom + " " + left, 1,
            "3/17[1 17 20] 9/0[1 20] " + axiom + " " + left);
        int par = b.read("(~a%F)");
        cutOfLeft(x -> b.it.bottom(0) + b.it.par(0, par), b);
        stepped(b, "L is PAR", "9/0[20 23] 4/23[0 23] 3/17[0 1 17] " + axiom + " " + left, 1,
            "4/23[20 23] 9/0[1 17 20] 3/17[0 1 17] " + axiom + " " + left);
        int plus = b.read("(c+~a)");
        cutOfLeft(x -> b.it.plus(0, plus, true), b);
        stepped(b, "L is RIGHT", "9/0[20 24] 7/24[0 24] " + axiom + " " + left, 1,
            "7/24[20 24] 9/0[1 20] " + axiom + " " + left);
        int with = b.read("(~a&~a)");
        cutOfLeft(x -> b.it.with(0, 0, with), b);
        stepped(b, "L is WITH", "9/0[20 27] 5/27[0 27] " + axiom + " " + axiom + " " + left, 2,
            "5/27[20 27] 9/0[1 20] " + axiom + " " + left + " 9/0[1 20] " + axiom + " " + left);
        int times = b.read("(~a*1)");
        cutOfLeft(x -> b.it.one(2) + b.it.times(0, 2, times), b);
        stepped(b, "L is TIMES with n in P", "9/0[20 28] 8/28[0 28] " + axiom + " 1/16[16] " + left, 1,
            "8/28[20 28] 9/0[1 20] " + axiom + " " + left + " 1/16[16]");
        int other = b.read("(1*~a)");
        cutOfLeft(x -> b.it.axiom(2, 0) + b.it.one(0) + b.it.times(0, 2, other), b);
        stepped(b, "L is TIMES with n in Q", "9/0[20 30] 8/30[0 30] 1/16[16] " + axiom + " " + left, 1,
            "8/30[20 30] 1/16[16] 9/0[1 20] " + axiom + " " + left);
        int same = b.read("(a*~a)");
        cutOfLeft(x -> b.it.times(0, 0, same), b);
        stepped(b, "L is TIMES with n as the part of P only",
            "9/0[1 20 32] 8/32[0 1 32] " + axiom + " " + axiom + " " + left, 1,
            "8/32[1 20 32] " + axiom + " 9/0[1 20] " + axiom + " " + left);
    }

    /** The CUT of the AXIOM's LEFT, by its formula, with a proof in which the dual one is no last formula. */
    private static Bench cutOfRight(Call rules, Bench b) {
        b.read("(a+a)");
        b.it.axiom(0, 0);
        b.it.plus(0, 20, false);
        b.it.axiom(1, 0);
        b.it.with(1, 1, 21);
        rules.apply(b);
        b.it.cut(0, 1, 20);
        return b;
    }

    private static void stepsOfRight() {
        String left = "6/20[1 20] 0/0[0 1]";
        String with = "5/21[0 21] 0/0[0 1] 0/0[0 1]";
        Bench b = new Bench();
        due("the dual of a+a", b.read("(a+a)") ^ 1, b.read("(~a&~a)"));
        cutOfRight(x -> b.it.put(21) + b.it.top(1), b);
        stepped(b, "R is TOP", "9/20[1 19] " + left + " 2/19[19 21]", 0, "2/19[1 19]");
        cutOfRight(x -> b.it.bottom(1), b);
        stepped(b, "R is BOTTOM", "9/20[0 1 17] " + left + " 3/17[0 17 21] " + with, 1,
            "3/17[0 1 17] 9/20[0 1] " + left + " " + with);
        int par = b.read("(a%F)");
        cutOfRight(x -> b.it.bottom(1) + b.it.par(1, par), b);
        stepped(b, "R is PAR", "9/20[1 23] " + left + " 4/23[21 23] 3/17[0 17 21] " + with, 1,
            "4/23[1 23] 9/20[0 1 17] " + left + " 3/17[0 17 21] " + with);
        int plus = b.read("(a+c)");
        cutOfRight(x -> b.it.plus(1, plus, false), b);
        stepped(b, "R is LEFT", "9/20[1 24] " + left + " 6/24[21 24] " + with, 1,
            "6/24[1 24] 9/20[0 1] " + left + " " + with);
        int both = b.read("(a&a)");
        cutOfRight(x -> b.it.with(1, 1, both), b);
        stepped(b, "R is WITH", "9/20[1 27] " + left + " 5/27[21 27] " + with + " " + with, 2,
            "5/27[1 27] 9/20[0 1] " + left + " " + with + " 9/20[0 1] " + left + " " + with);
        int times = b.read("(a*1)");
        cutOfRight(x -> b.it.one(2) + b.it.times(1, 2, times), b);
        stepped(b, "R is TIMES with the dual in P", "9/20[1 28] " + left + " 8/28[21 28] " + with + " 1/16[16]", 1,
            "8/28[1 28] 9/20[0 1] " + left + " " + with + " 1/16[16]");
        int other = b.read("(1*a)");
        cutOfRight(x -> b.it.with(b.it.axiom(2, 0) + 1, 2, 21) + b.it.one(1) + b.it.times(1, 2, other), b);
        stepped(b, "R is TIMES with the dual in Q", "9/20[1 30] " + left + " 8/30[21 30] 1/16[16] " + with, 1,
            "8/30[1 30] 1/16[16] 9/20[0 1] " + left + " " + with);
    }

    private static void stepsOfUnits() {
        Bench b = new Bench();
        b.it.one(0);
        b.it.axiom(1, 0);
        b.it.bottom(1);
        b.it.cut(0, 1, 16);
        stepped(b, "1", "9/16[0 1] 1/16[16] 3/17[0 1 17] 0/0[0 1]", 0, "0/0[0 1]");
        b.it.one(2);
        b.it.bottom(0);
        b.it.cut(0, 2, 17);
        stepped(b, "F", "9/17[0 1] 3/17[0 1 17] 0/0[0 1] 1/16[16]", 0, "0/0[0 1]");
        b.setDraft(0);
        b.it.top(0);
        b.setDraft(18);
        b.it.top(1);
        b.it.bottom(1);
        b.it.cut(0, 1, 19);
        stepped(b, "T", "9/19[0 17 19] 2/19[0 19] 3/17[17 18 19] 2/19[18 19]", 1,
            "3/17[0 17 19] 9/19[0 19] 2/19[0 19] 2/19[18 19]");
    }

    private static void stepsOfParts() {
        Bench b = new Bench();
        int n = b.read("(a*b)");
        b.setDraft(n, n ^ 1);
        b.it.prove(2);
        String times = "8/20[1 3 20] 0/0[0 1] 0/2[2 3]";
        String par = "4/21[20 21] 8/20[1 3 20] 0/0[0 1] 0/2[2 3]";
        String changed = "0/0[0 1] 9/2[1 3 20] 0/2[2 3] 8/20[1 3 20] 0/0[0 1] 0/2[2 3]";
        b.it.axiom(0, 0);
        b.it.axiom(1, 1);
        b.it.times(0, 1, n);
        b.it.cut(0, 2, n);
        stepped(b, "TIMES and PAR", "9/20[1 3 20] " + times + " " + par, 2, "9/0[1 3 20] " + changed);
        b.it.axiom(3, 0);
        b.it.times(3, 1, n);
        due("a copy", b.it.drop(0), 7);
        b.it.prove(0);
        b.it.cut(0, 3, n ^ 1);
        stepped(b, "PAR and TIMES", "9/21[1 3 20] " + par + " " + times, 2, "9/0[1 3 20] " + changed);
        int sum = b.read("(a+b)");
        b.setDraft(sum, sum ^ 1);
        String with = "5/23[22 23] 6/22[1 22] 0/0[0 1] 7/22[3 22] 0/2[2 3]";
        b.it.prove(2);
        b.it.axiom(0, 0);
        b.it.plus(0, sum, false);
        b.it.cut(0, 2, sum);
        stepped(b, "LEFT and WITH", "9/22[1 22] 6/22[1 22] 0/0[0 1] " + with, 1,
            "9/0[1 22] 0/0[0 1] 6/22[1 22] 0/0[0 1]");
        b.it.axiom(3, 1);
        b.it.plus(3, sum, true);
        b.it.prove(0);
        b.it.cut(0, 3, sum ^ 1);
        stepped(b, "WITH and RIGHT", "9/23[3 22] " + with + " 7/22[3 22] 0/2[2 3]", 1,
            "9/2[3 22] 0/2[2 3] 7/22[3 22] 0/2[2 3]");
    }

    private static void firstCutOfSeveral() {
        Bench b = new Bench();
        b.it.axiom(0, 0);
        b.it.axiom(1, 0);
        b.it.bottom(1);
        b.it.cut(0, 1, 0);
        b.it.bottom(0);
        b.it.axiom(2, 0);
        b.it.cut(2, 2, 0);
        b.it.cut(0, 2, 0);
        due("CUTS", b.it.cuts(0), 3);
        stepped(b, "the one above in the first premise",
            "9/0[0 1 17 17] 3/17[0 1 17 17] 9/0[0 1 17] 0/0[0 1] 3/17[0 1 17] 0/0[0 1] 9/0[0 1] 0/0[0 1] 0/0[0 1]", 2,
            "9/0[0 1 17 17] 3/17[0 1 17 17] 3/17[0 1 17] 0/0[0 1] 9/0[0 1] 0/0[0 1] 0/0[0 1]");
        due("its nodes", b.it.node(0, 0, 3), 7);
        due("of a node below", b.it.node(0, 1, 3), 3);
        stepped(b, "the one in the second premise",
            "9/0[0 1 17 17] 3/17[0 1 17 17] 3/17[0 1 17] 0/0[0 1] 9/0[0 1] 0/0[0 1] 0/0[0 1]", 1,
            "9/0[0 1 17 17] 3/17[0 1 17 17] 3/17[0 1 17] 0/0[0 1] 0/0[0 1]");
        stepped(b, "the last", "9/0[0 1 17 17] 3/17[0 1 17 17] 3/17[0 1 17] 0/0[0 1] 0/0[0 1]", 0,
            "3/17[0 1 17 17] 3/17[0 1 17] 0/0[0 1]");
        due("none", b.it.step(0), NONE);
    }

    /** A CUT of a WITH, and of a proof without CUTS of so many nodes that there is no room for it twice. */
    private static Bench largeCut() {
        Bench b = new Bench();
        int two = b.read("(a&a)");
        int four = b.it.make(3, two, two);
        int dual = b.read("(~a&~a)");
        b.it.axiom(1, 0);
        b.it.with(1, 1, two);
        b.it.with(1, 1, four);
        b.it.with(1, 1, dual);
        b.it.with(1, 1, b.it.make(3, dual, dual));
        b.setDraft(four ^ 1);
        b.it.top(0);
        b.it.with(0, 0, b.read("(T&T)"));
        return b;
    }

    private static void stepBeyondHundred() {
        Bench b = largeCut();
        int four = b.read("((a&a)&(a&a))");
        due("31 nodes and 3", b.it.cut(0, 1, four ^ 1), 35);
        due("room for 31 twice", b.it.step(0), 2);
        due("nodes", b.it.nodes(0), 67);
        Bench large = largeCut();
        int eight = large.it.make(3, large.read("((~a&~a)&(~a&~a))"), large.read("((~a&~a)&(~a&~a))"));
        due("63 nodes", large.it.with(1, 1, eight), 63);
        due("63 nodes and 3", large.it.cut(0, 1, four ^ 1), 67);
        refused(large, "no room for 63 twice", TOO_MUCH, x -> large.it.step(0));
        refused(large, "nor behind the first of all", TOO_MUCH, x -> large.it.eliminate(0));
    }

    private static void promise23() {
        Bench b = new Bench();
        refusedSlots(b, "eliminate", slot -> x -> b.it.eliminate(slot));
        refused(b, "no proof", STATE, x -> b.it.eliminate(0));
        b.it.axiom(0, 0);
        due("no CUT", b.it.eliminate(0), 0);
        int n = b.read("((a+b)*(c&1))");
        b.setDraft(n, n ^ 1);
        b.it.prove(0);
        String before = b.proof(0);
        b.it.prove(1);
        b.it.cut(0, 1, n);
        due("steps", b.it.eliminate(0), 42);
        due("CUTS", b.it.cuts(0), 0);
        due("the CUT of duals", b.line(0, 0), "24 25");
        due("as it was", b.proof(0), before);
        due("a node that is not as its rule asks", new ProofChecker(b.it, 0).firstWrong(), -1);
        Bench many = Examples.manySteps(3);
        due("CUTS at first", many.it.cuts(0), 20);
        due("300 steps", many.it.eliminate(0), 300);
        due("CUTS", many.it.cuts(0), 0);
        Bench more = Examples.manySteps(4);
        refused(more, "301 steps", TOO_MUCH, x -> more.it.eliminate(0));
        due("but one by step()", more.it.step(0) >= 0, true);
        due("and the others", more.it.eliminate(0), 300);
    }

    private static void promise24() {
        Bench b = new Bench();
        due("none", b.it.nodes(3), 0);
        b.it.one(3);
        due("ONE", b.it.nodes(3), 1);
        b.it.bottom(3);
        b.it.cut(3, b.it.one(2) + 1, 17);
        due("CUT", b.it.nodes(3), 4);
        due("another slot", b.it.nodes(0), 0);
        refusedSlots(b, "nodes", slot -> x -> b.it.nodes(slot));
    }

    private static void promise25() {
        Bench b = new Bench();
        due("none", b.it.cuts(0), 0);
        b.it.axiom(0, 0);
        due("no CUT", b.it.cuts(0), 0);
        b.it.cut(0, 0, 0);
        due("one", b.it.cuts(0), 1);
        b.it.bottom(0);
        b.it.cut(0, 0, 0);
        due("three", b.it.cuts(0), 3);
        due("another slot", b.it.cuts(1), 0);
        refusedSlots(b, "cuts", slot -> x -> b.it.cuts(slot));
    }

    private static void promise26() {
        Bench b = new Bench();
        int n = b.read("(1*~a)");
        b.it.one(0);
        b.it.axiom(1, 0);
        b.it.bottom(1);
        b.it.times(0, 1, n);
        int[][] want = {{8, n, 3, 4}, {1, 16, 1, 1}, {3, 17, 3, 2}, {0, 0, 2, 1}};
        for (int k = 0; k < 4; k++) {
            for (int what = 0; what < 4; what++) {
                due("of node " + k + ", " + what, b.it.node(0, k, what), want[k][what]);
            }
        }
        refusedSlots(b, "node", slot -> x -> b.it.node(slot, 0, 0));
        refused(b, "what -1", ARGUMENT, x -> b.it.node(0, 0, -1));
        refused(b, "what 4", ARGUMENT, x -> b.it.node(0, 0, 4));
        refused(b, "what 4 of no node", ARGUMENT, x -> b.it.node(0, 9, 4));
        refused(b, "node -1", INDEX, x -> b.it.node(0, -1, 0));
        refused(b, "node 4", INDEX, x -> b.it.node(0, 4, 0));
        refused(b, "node 100", INDEX, x -> b.it.node(0, 100, 0));
        refused(b, "no proof", INDEX, x -> b.it.node(2, 0, 0));
    }

    private static void promise27() {
        Bench b = new Bench();
        b.setDraft(18, 3, 3);
        b.it.top(0);
        b.it.bottom(0);
        int[] want = {3, 3, 17, 18, 19, NONE, NONE, NONE};
        for (int i = 0; i < want.length; i++) {
            due("formula " + i, b.it.conclusion(0, 0, i), want[i]);
        }
        due("of the node above", b.line(0, 1), "3 3 18 19");
        due("formula -1", b.it.conclusion(0, 0, -1), NONE);
        due("far", b.it.conclusion(0, 1, Integer.MAX_VALUE), NONE);
        refusedSlots(b, "conclusion", slot -> x -> b.it.conclusion(slot, 0, 0));
        refused(b, "node -1", INDEX, x -> b.it.conclusion(0, -1, 0));
        refused(b, "node 2", INDEX, x -> b.it.conclusion(0, 2, 0));
        refused(b, "no proof", INDEX, x -> b.it.conclusion(1, 0, 0));
    }

    public static void main(String[] args) {
        Runnable[] promises = {
            PromisesTest::promise1, PromisesTest::promise2, PromisesTest::promise3, PromisesTest::promise4,
            PromisesTest::promise5, PromisesTest::promise6, PromisesTest::promise7, PromisesTest::promise8,
            PromisesTest::promise9, PromisesTest::promise10, PromisesTest::promise11, PromisesTest::promise12,
            PromisesTest::promise13, PromisesTest::promise14, PromisesTest::promise15, PromisesTest::promise16,
            PromisesTest::promise17, PromisesTest::promise18, PromisesTest::promise19, PromisesTest::promise20,
            PromisesTest::promise21, PromisesTest::promise22, PromisesTest::promise23, PromisesTest::promise24,
            PromisesTest::promise25, PromisesTest::promise26, PromisesTest::promise27,
        };
        for (int i = 0; i < promises.length; i++) {
            test("promise " + (i + 1), promises[i]);
        }
        end("promises");
    }
}
