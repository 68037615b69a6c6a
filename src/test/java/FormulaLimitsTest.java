/** The sentences of the document that set a limit to formulas and texts: Terms, and promises 1 to 7. */
public final class FormulaLimitsTest extends Check {
    private static final String EIGHT = "(((a*a)*(a*a))*((a*a)*(a*a)))";

    private static Bench typing(String text) {
        Bench b = new Bench();
        due("there is room for " + text, b.typed(text), true);
        return b;
    }

    private static void reads(String text, int want) {
        Bench b = new Bench();
        due("reading " + text, b.read(text), want);
        due("behind " + text + " there is no text", b.it.read(), -1);
    }

    private static void letters() {
        reads("a", 0);
        reads("~a", 1);
        reads("h", 14);
        reads("~h", 15);
        for (String none : new String[] {"`", "i", "A", "H", "z"}) {
            reads(none, -1);
            reads("~" + none, -2);
        }
        Bench b = new Bench();
        due("the first letter", b.written(0) + b.written(1), "a~a");
        due("the last letter", b.written(14) + b.written(15), "h~h");
        due("no letter any more", b.written(16), "1");
    }

    private static void constants() {
        String told = "1F0T";
        for (int i = 0; i < 4; i++) {
            reads(told.substring(i, i + 1), 16 + i);
            reads("~" + told.charAt(i), (16 + i) ^ 1);
            due("written", new Bench().written(16 + i), told.substring(i, i + 1));
        }
        for (String none : new String[] {"/", "2", "9", "E", "G", "S", "U", "t", "o", "l"}) {
            reads(none, -1);
        }
    }

    private static void numbersFromTwenty() {
        int[] first = {20, 21, 20, 21};
        for (int sign = 0; sign < 4; sign++) {
            Bench b = new Bench();
            due("the first one, sign " + sign, b.it.make(sign, 14, 19), first[sign]);
            due("its dual", b.it.make(sign ^ 1, 15, 18), first[sign] ^ 1);
            due("the next one", b.it.make(sign, 19, 14), first[sign] + 2);
        }
        Bench b = Examples.pairs(29);
        due("the last pair", b.it.make(3, 15, 15), 79);
        due("its dual", b.it.make(2, 14, 14), 78);
        due("no more than 80", b.it.formulas(), 80);
    }

    private static void notMadeAgain() {
        Bench b = Examples.pairs(30);
        for (int n = 20; n < 80; n++) {
            due("made again", b.it.make(b.it.about(n, 1), b.it.about(n, 2), b.it.about(n, 3)), n);
            due("read again", b.read(b.written(n)), n);
            due("the dual read", b.read("~" + b.written(n)), n ^ 1);
        }
        due("formulas", b.it.formulas(), 80);
    }

    private static void thirtyPairs() {
        allowed("the 30th", () -> Examples.pairs(29), b -> b.it.make(0, 14, 14), 78);
        for (int sign = 0; sign < 4; sign++) {
            int any = sign;
            refused("a 31st, sign " + sign, () -> Examples.pairs(30), b -> b.it.make(any, 14, 14), STATE);
        }
        allowed("what is there", () -> Examples.pairs(30), b -> b.it.make(2, 14, 16), 78);
        allowed("the dual of what is there", () -> Examples.pairs(30), b -> b.it.make(3, 15, 17), 79);
        allowed("a wrong sign", () -> Examples.pairs(30), b -> b.it.make(4, 14, 14), ARGUMENT);
        allowed("a formula that there is not", () -> Examples.pairs(30), b -> b.it.make(0, 80, 14), ARGUMENT);
    }

    private static void readingThirtyPairs() {
        tooMuch("two for the 30th and a 31st", 29, "((h*h)*(h%h))", "(h*h)", 78);
        tooMuch("the second of them", 29, "((h*h)*(g*g))", "(g*g)", 78);
        tooMuch("three behind 28", 28, "((h*h)*(g*g))", "((g*g)*0)", 78);
        tooMuch("a 31st", 30, "(h*h)", "(h+1)", 78);
        tooMuch("the dual of a 31st", 30, "~(h*h)", "~(h+1)", 79);
        tooMuch("a 31st inside", 30, "((h+1)*(h*h))", "(a+a)", 20);
        allowed("two behind 28", () -> Examples.pairs(28), b -> b.read("((h*h)*h)"), 78);
        allowed("two that are the same", () -> Examples.pairs(29), b -> b.read("((h*h)*h)"), -100);
        allowed("twice the 30th", () -> Examples.pairs(28), b -> b.read("((h*h)+(h*h))"), 78);
        allowed("the 30th and its dual", () -> Examples.pairs(28), b -> b.read("((h*h)+(~h%~h))"), 78);
        allowed("a letter", () -> Examples.pairs(30), b -> b.read("~h"), 15);
        allowed("a fault", () -> Examples.pairs(30), b -> b.read("(h*h)h"), -6);
    }

    private static void tooMuch(String what, int pairs, String text, String next, int number) {
        noneMade(what, pairs, text, -100, next, number);
    }

    /** Reading answers this and makes none, so that behind it another text has the number that is due. */
    private static void noneMade(String what, int pairs, String text, int want, String next, int number) {
        Bench b = Examples.pairs(pairs);
        String before = b.all() + b.allFormulas();
        due(what, b.read(text), want);
        due(what + ", none is made", b.all() + b.allFormulas(), before);
        due(what + ", there is no text", b.it.read(), -1);
        due(what + ", the next one", b.read(next), number);
    }

    private static void leavesOfMade() {
        for (int leaves = 1; leaves <= 8; leaves++) {
            due("leaves", Examples.sizes().it.about(Examples.ofLeaves(leaves), 0), leaves);
            due("leaves of the dual", Examples.sizes().it.about(Examples.ofLeaves(leaves) ^ 1, 0), leaves);
        }
        for (int n = 0; n < 20; n++) {
            due("leaves of " + n, new Bench().it.about(n, 0), 1);
        }
        for (int i = 1; i <= 8; i++) {
            int first = Examples.ofLeaves(i);
            for (int j = 1; j <= 8; j++) {
                int second = Examples.ofLeaves(j);
                String both = i + " and " + j + " leaves";
                if (i + j <= 8) {
                    allowed(both, () -> Examples.sizes(), b -> b.it.about(b.it.make(3, first, second), 0), i + j);
                } else {
                    refused(both, () -> Examples.sizes(), b -> b.it.make(3, first, second), STATE);
                }
            }
        }
    }

    private static void leavesOfRead() {
        reads(EIGHT, 24);
        due("eight leaves", new Bench().read("(a*(a%(a+(a&(a*(a%(a+a)))))))") >= 20, true);
        tooMuch("nine leaves", 0, "(" + EIGHT + "*b)", "(h*h)", 20);
        tooMuch("nine leaves, the one first", 0, "(b*" + EIGHT + ")", "(h*h)", 20);
        tooMuch("the dual of nine leaves", 0, "~(" + EIGHT + "*b)", "(h*h)", 20);
        tooMuch("five and four", 0, "(((a*a)*(a*(a*a)))*((a*a)*(a*a)))", "(h*h)", 20);
        tooMuch("twelve leaves", 0, "((a*(a*a))*(((a*a)*(a*a))*((a*b)*(a*(b*a)))))", "(h*h)", 20);
        tooMuch("nine leaves and 30 pairs", 30, "(" + EIGHT + "*b)", "(h+1)", 78);
    }

    private static void textOfSixty() {
        for (int many = 53; many <= 60; many++) {
            String text = "~".repeat(many);
            for (int more = 0; more <= 8; more++) {
                long w = Bench.packed("~".repeat(more));
                Bench b = typing(text);
                boolean fits = many + more <= 60;
                due(more + " behind " + many, b.it.type(w), fits);
                due("reading both", b.it.read(), -1 - many - (fits ? more : 0));
            }
        }
        Bench b = typing("~".repeat(58));
        due("three more", b.it.type(Bench.packed("aaa")), false);
        due("two more", b.it.type(Bench.packed("~b")), true);
        due("one more", b.it.type('a'), false);
        due("none more", b.it.type(0), true);
        due("none before others", b.it.type(0x6100), true);
        due("59 duals of b", b.it.read(), 3);
        due("there is room again", b.typed("~".repeat(60)), true);
        due("and no more", b.it.type('~'), false);
    }

    private static void dualsOfDuals() {
        for (int many = 0; many <= 59; many++) {
            reads("~".repeat(many) + "c", 4 + many % 2);
            reads("~".repeat(Math.min(many, 55)) + "(a&b)", 21 - Math.min(many, 55) % 2);
        }
        Bench b = new Bench();
        int n = b.read("~(" + "~".repeat(28) + "a*" + "~".repeat(26) + "b)");
        due("of the parts and of all", b.written(n), "(~a%~b)");
        n = b.read("(" + "~".repeat(28) + "a*" + "~".repeat(27) + "b)");
        due("of the parts alone", b.written(n), "(a*~b)");
    }

    private static void openBrackets() {
        String left = "a";
        String right = "a";
        for (int open = 1; open <= 8; open++) {
            left = "(" + left + "+b)";
            right = "(b+" + right + ")";
            due(open + " open", new Bench().read(left), open == 8 ? -100 : 18 + 2 * open);
            due(open + " open on the right", new Bench().read(right), open == 8 ? -100 : 18 + 2 * open);
            due(open + " open and no more", new Bench().read("(".repeat(open)), -1 - open);
            due(open + " open, and a letter", new Bench().read("(".repeat(open) + "a"), -2 - open);
        }
        reads("(" + left + "+b)", -1 - 8);
        reads("(b+" + right + ")", -1 - 24);
        reads("(".repeat(9), -1 - 8);
        reads("(".repeat(60), -1 - 8);
        reads("~(~(~(~(~(~(~(~(~", -1 - 17);
        reads("~(~(~(~(~(~(~(~(~(", -1 - 17);
    }

    /** More than eight brackets, but never more than eight of them open: no fault, though too many leaves. */
    private static void bracketsOpenAtATime() {
        reads("((((a*a)*(a*a))*((a*a)*(a*a)))*(((a*a)*(a*a))*(a*a)))", -100);
        reads("((((((((a*b)*b)*b)*b)*b)*b)*b)*(a*(a*(a*a))))", -100);
        reads("((((((((a*b)*b)*b)*b)*b)*b)*(a*b))*b)", -100);
        reads("((((((((a*b)*(a*b))*b)*b)*b)*b)*b)*b)", -100);
        reads("((((((((a*(a*b))*b)*b)*b)*b)*b)*b)*b)", -1 - 10);
    }

    private static void faultPlaces() {
        String good = "((a*~1)&(F+0))";
        String first = "~(abcdefgh1F0T";
        for (int place = 0; place < good.length(); place++) {
            String begun = good.substring(0, place);
            due("no more than " + begun, new Bench().read(begun), -1 - place);
            for (char c = 33; c <= 126; c++) {
                boolean starts = place == 0 || "(*~&+".indexOf(good.charAt(place - 1)) >= 0;
                String signs = place == 3 || place == 7 || place == 10 ? "*%+&" : ")";
                boolean goesOn = (starts ? first : signs).indexOf(c) >= 0;
                // The character that goes on is followed by one that never does.
                int want = -1 - (goesOn ? place + 1 : place);
                due("behind " + begun + " a " + c, new Bench().read(begun + c + "!"), want);
            }
        }
        reads(good + "!", -1 - good.length());
        reads(good + ")", -1 - good.length());
        reads("~".repeat(59) + "!", -60);
        reads("~".repeat(58) + "a!", -60);
    }

    private static void faultOfLength() {
        reads("", -1);
        reads("~".repeat(60), -61);
        reads("(" + "~".repeat(59), -61);
        reads("(" + "~".repeat(58) + "a", -61);
        reads("(" + "~".repeat(56) + "a*b", -61);
        reads("(" + "~".repeat(55) + "a*b)", 20);
    }

    private static void faultBeforeTooMuch() {
        String nine = "(" + EIGHT + "*b)";
        reads(nine + "b", -1 - nine.length());
        reads("(" + nine + "*", -2 - nine.length() - 1);
        reads("(" + nine + ")", -2 - nine.length());
        allowed("a 31st and a fault", () -> Examples.pairs(30), b -> b.read("((h*h)h"), -7);
    }

    private static void faultsMakeNone() {
        noneMade("a fault behind a whole one", 0, "(a*b)c", -6, "(h*h)", 20);
        noneMade("a fault behind two whole ones", 0, "((a*b)*(c+d)", -13, "(h*h)", 20);
        noneMade("a fault behind the 30th", 29, "((h*h)", -7, "(h+h)", 78);
    }

    private static void newObject() {
        Bench used = Examples.pairs(30);
        used.setDraft(0, 1, 2, 3, 4, 5, 6, 7);
        used.typed("~".repeat(60));
        for (int slot = 0; slot < 4; slot++) {
            used.it.axiom(slot, slot);
        }
        Bench b = new Bench();
        due("no compound formulas", b.it.formulas(), 20);
        due("none of number 20", b.answerOf(x -> b.it.about(20, 0)), ARGUMENT);
        due("no text", b.it.read(), -1);
        due("an empty draft", b.it.draft(0), NONE);
        due("nothing to take", b.it.take(0), NONE);
        for (int slot = 0; slot < 4; slot++) {
            int any = slot;
            due("no nodes", b.it.nodes(slot), 0);
            due("no CUTS", b.it.cuts(slot), 0);
            due("nothing to drop", b.it.drop(slot), 0);
            due("no node", b.answerOf(x -> b.it.node(any, 0, 0)), INDEX);
            due("no conclusion", b.answerOf(x -> b.it.conclusion(any, 0, 0)), INDEX);
            due("no BOTTOM", b.answerOf(x -> b.it.bottom(any)), STATE);
            due("no STEP", b.answerOf(x -> b.it.step(any)), STATE);
            due("no STEPS", b.answerOf(x -> b.it.eliminate(any)), STATE);
        }
        due("room for a text of 60", b.typed("~".repeat(60)), true);
        due("another one is as it was", used.it.read(), -61);
        due("with its formulas", used.it.formulas(), 80);
        due("and its draft", used.draft(), "0 1 2 3 4 5 6 7");
    }

    private static void lowestBitsFirst() {
        Bench b = new Bench();
        due("eight characters", b.it.type(Bench.packed("~~~~~~~~")), true);
        due("their fault", b.it.read(), -9);
        due("eight in order", b.it.type(Bench.packed("(~a*~~b)")), true);
        due("(~a*b)", b.written(b.it.read()), "(~a*b)");
        for (int many = 0; many < 8; many++) {
            long some = Bench.packed("~".repeat(many));
            // Behind the first 0 there may be anything, even what no text may have.
            for (long rest : new long[] {0, -1, 0x2020202020202020L, 0x6161616161616161L}) {
                long behind = many < 7 ? rest << (8 * many + 8) : 0;
                due(many + " up to a 0", b.it.type(some | behind), true);
                due("they are " + many, b.it.read(), -1 - many);
            }
        }
    }

    private static void charactersOfTexts() {
        Bench b = new Bench();
        for (int place = 0; place < 8; place++) {
            for (int c = 1; c < 256; c++) {
                long w = Bench.packed("~".repeat(place)) | (long) c << (8 * place);
                boolean may = c >= 33 && c <= 126;
                due("character " + c + " at " + place, b.it.type(w), may);
                int fault = !may ? 0 : c == '~' || c == '(' ? place + 1 : place;
                boolean whole = may && "abcdefgh1F0T".indexOf(c) >= 0;
                int read = b.it.read();
                due("reading character " + c + " at " + place, read >= 0 ? true : read, whole ? true : -1 - fault);
            }
        }
    }

    private static void refusedTyping() {
        long[] bad = {32, 127, 255, 0x2062, 0x7F62, 0x8000000000000000L | Bench.packed("bbbbbbb"), -1};
        for (long w : bad) {
            Bench b = typing("(a*");
            due("typing " + w, b.it.type(w), false);
            due("behind it", b.it.type(Bench.packed("b)")), true);
            due("the text", b.it.read(), 20);
        }
    }

    private static void emptyBehindReading() {
        for (String text : new String[] {"a", "(a*b)", "(a*", "!", "(" + EIGHT + "*b)"}) {
            Bench b = typing(text);
            b.it.read();
            due("behind " + text, b.it.read(), -1);
            due("room behind " + text, b.typed("~".repeat(60)), true);
            due("and no more", b.it.type('a'), false);
        }
    }

    private static void leftPartFirst() {
        Bench b = new Bench();
        due("all that it is made of", b.read("(((a%b)&1)*(0+(c*d)))"), 28);
        String[] made = {"(~a*~b)", "(a%b)", "((~a*~b)+F)", "((a%b)&1)", "(c*d)", "(~c%~d)", "(0+(c*d))"};
        for (int i = 0; i < made.length; i++) {
            due("number " + (20 + i), b.written(20 + i), made[i]);
        }
        due("formulas", b.it.formulas(), 30);
    }

    private static void signsOfMake() {
        for (int sign : new int[] {LEAST, -1, 4, 5, GREATEST}) {
            refused("sign " + sign, () -> new Bench(), b -> b.it.make(sign, 0, 0), ARGUMENT);
            refused(sign + ", too many leaves", () -> Examples.sizes(), b -> b.it.make(sign, 32, 32), ARGUMENT);
        }
        for (int sign = 0; sign < 4; sign++) {
            int any = sign;
            String want = "(a" + "*%+&".charAt(sign) + "b)";
            allowed("sign " + sign, () -> new Bench(), b -> b.written(b.it.make(any, 0, 2)), want);
        }
    }

    private static void partsOfMake() {
        for (int n : new int[] {LEAST, -1, 22, 80, GREATEST}) {
            for (int sign : new int[] {0, 3, 4}) {
                refused("first part " + n, () -> Examples.pairs(1), b -> b.it.make(sign, n, 0), ARGUMENT);
                refused("second part " + n, () -> Examples.pairs(1), b -> b.it.make(sign, 0, n), ARGUMENT);
            }
        }
        allowed("the first formula", () -> Examples.pairs(1), b -> b.it.make(0, 0, 0), 22);
        allowed("the last formula", () -> Examples.pairs(1), b -> b.it.make(0, 21, 21), 22);
        allowed("79", () -> Examples.pairs(30), b -> b.it.make(0, 79, 0), STATE);
        allowed("80", () -> Examples.pairs(30), b -> b.it.make(0, 80, 0), ARGUMENT);
    }

    private static void countOfFormulas() {
        for (int many = 0; many <= 30; many++) {
            due(many + " pairs", Examples.pairs(many).it.formulas(), 20 + 2 * many);
        }
        Bench b = Examples.pairs(30);
        b.read("(h*h)");
        due("no more", b.it.formulas(), 80);
    }

    private static void whatAbout() {
        for (int what : new int[] {LEAST, -1, 4, 5, GREATEST}) {
            refused("what " + what, () -> Examples.pairs(1), b -> b.it.about(0, what), ARGUMENT);
            refused(what + " of a compound one", () -> Examples.pairs(1), b -> b.it.about(21, what), ARGUMENT);
        }
        for (int what = 0; what < 4; what++) {
            int any = what;
            for (int n : new int[] {LEAST, -1, 22, GREATEST}) {
                refused("formula " + n, () -> Examples.pairs(1), b -> b.it.about(n, any), ARGUMENT);
            }
            allowed("formula 79", () -> Examples.pairs(30), b -> b.it.about(79, any), new int[] {2, 3, 15, 17}[what]);
            allowed("formula 80", () -> Examples.pairs(30), b -> b.it.about(80, any), ARGUMENT);
        }
    }

    private static void noneAboutSimpleOnes() {
        for (int what = 1; what < 4; what++) {
            for (int n = 0; n < 20; n++) {
                due("of " + n, Examples.pairs(1).it.about(n, what), NONE);
            }
        }
        int[] even = {2, 2, 0, 0};
        int[] odd = {2, 3, 1, 1};
        for (int what = 0; what < 4; what++) {
            due("of 20", Examples.pairs(1).it.about(20, what), even[what]);
            due("of 21", Examples.pairs(1).it.about(21, what), odd[what]);
        }
    }

    private static void placesOfWritten() {
        Bench b = new Bench();
        String longest = "(~a*(~b%(~c+(~d&((~e*~f)%(~g+~h))))))";
        int n = b.read(longest);
        due("the length", longest.length(), 37);
        String[] texts = {"a", "~h", "T", longest};
        int[] numbers = {0, 15, 19, n};
        for (int i = 0; i < texts.length; i++) {
            for (int k = 0; k < texts[i].length(); k++) {
                due(texts[i] + " at " + k, b.it.written(numbers[i], k), texts[i].charAt(k));
            }
            for (int k : new int[] {LEAST, -2, -1, texts[i].length(), 38, 60, 255, 256, GREATEST}) {
                due(texts[i] + " at " + k, b.it.written(numbers[i], k), (char) 0);
            }
        }
        for (int k : new int[] {-1, 0, 99}) {
            for (int none : new int[] {LEAST, -1, 22, GREATEST}) {
                refused("formula " + none, () -> Examples.pairs(1), x -> x.it.written(none, k), ARGUMENT);
            }
        }
        allowed("formula 79", () -> Examples.pairs(30), x -> x.written(79), "(~h&F)");
        allowed("formula 80", () -> Examples.pairs(30), x -> x.it.written(80, 0), ARGUMENT);
    }

    public static void main(String[] args) {
        test("For k from 0 to 7, 2 k is the LETTER told a .. h", () -> letters());
        test("16 is told 1, its dual 17 F, 18 is told 0, its dual 19 T", () -> constants());
        test("the next two numbers, from 20 on, * and + the even one", () -> numbersFromTwenty());
        test("what is there is not made again", () -> notMadeAgain());
        test("There are at most 30 such pairs", () -> thirtyPairs());
        test("The LEAVES of a formula are at most 8", () -> leavesOfMade());
        test("THE TEXT has up to 60 characters", () -> textOfSixty());
        test("~ and a written formula", () -> dualsOfDuals());
        test("at most 8 brackets being open", () -> openBrackets());
        test("8 brackets being open at a time", () -> bracketsOpenAtATime());
        test("the place (from 0) of the first character", () -> faultPlaces());
        test("its length when there is none such", () -> faultOfLength());
        test("promise 1: No compound formulas, no text, an empty draft, no proofs", () -> newObject());
        test("promise 2: the lowest 8 bits of w, up to the first that are 0, eight at most", () -> lowestBitsFirst());
        test("promise 2: False when one is not 33 .. 126", () -> charactersOfTexts());
        test("promise 2: False, and nothing is changed", () -> refusedTyping());
        test("promise 3: the text, which is empty then", () -> emptyBehindReading());
        test("promise 3: all that it is made of (the left part first)", () -> leftPartFirst());
        test("promise 3: -1 - p with the FAULT p, though there is too much before it", () -> faultBeforeTooMuch());
        test("promise 3: -1 - p with the FAULT p, and none is made", () -> faultsMakeNone());
        test("promise 3: -100 when one would have too many leaves", () -> leavesOfRead());
        test("promise 3: -100 when one would be of a 31st pair", () -> readingThirtyPairs());
        test("promise 4: also for another sign", () -> signsOfMake());
        test("promise 4: IllegalArgumentException for a formula that there is not", () -> partsOfMake());
        test("promise 5: How many formulas there are", () -> countOfFormulas());
        test("promise 6: also for another what", () -> whatAbout());
        test("promise 6: NONE when it is not compound", () -> noneAboutSimpleOnes());
        test("promise 7: 0 when there is none", () -> placesOfWritten());
        end("sentences on formulas and texts");
    }
}
