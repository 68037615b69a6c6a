import java.util.Arrays;

/** The sentences of the document that set a limit to the draft: Terms, and promises 8 to 10. */
public final class DraftLimitsTest extends Check {
    private static Bench draft(int... formulas) {
        Bench b = Examples.sizes();
        b.setDraft(formulas);
        return b;
    }

    private static void eightFormulas() {
        allowed("the eighth", () -> draft(1, 1, 1, 1, 1, 1, 1), b -> b.it.put(19), 8);
        for (int n : new int[] {0, 1, 19, 20, 32, 33}) {
            refused("a ninth, " + n, () -> draft(1, 1, 1, 1, 1, 1, 1, 1), b -> b.it.put(n), STATE);
        }
        Bench b = draft(0, 1, 2, 3, 16, 17, 18, 19);
        due("refused", b.answerOf(x -> x.it.put(4)), STATE);
        due("the draft behind it", b.draft(), "0 1 2 3 16 17 18 19");
        due("one is taken", b.it.take(3), 3);
        due("there is room for one", b.it.put(4), 8);
        due("and for no more", b.answerOf(x -> x.it.put(4)), STATE);
        due("the draft behind all", b.draft(), "0 1 2 4 16 17 18 19");
    }

    private static void eightLeaves() {
        for (int i = 1; i <= 8; i++) {
            int first = Examples.ofLeaves(i);
            allowed(i + " leaves alone", () -> draft(), b -> b.it.put(first ^ 1), 1);
            for (int j = 1; j <= 8; j++) {
                int second = Examples.ofLeaves(j);
                String both = i + " and " + j + " leaves";
                if (i + j <= 8) {
                    allowed(both, () -> draft(first), b -> b.it.put(second), 2);
                } else {
                    refused(both, () -> draft(first), b -> b.it.put(second), STATE);
                }
            }
        }
        allowed("2, 2, 2 and 2", () -> draft(20, 20, 21), b -> b.it.put(21), 4);
        refused("2, 2, 2 and 3", () -> draft(20, 20, 21), b -> b.it.put(22), STATE);
        Bench b = draft(32);
        due("refused", b.answerOf(x -> x.it.put(0)), STATE);
        due("the great one is taken", b.it.take(0), 32);
        due("there is room for seven", b.it.put(30), 1);
        due("and for one", b.it.put(0), 2);
    }

    private static void emptyAtFirst() {
        due("a new object's", new Bench().draft(), "");
        due("how many it has with one", new Bench().it.put(0), 1);
    }

    private static void risingOrder() {
        int[] some = {19, 0, 20, 7, 7, 21, 0};
        Bench b = draft();
        for (int i = 0; i < 6; i++) {
            due("put", b.it.put(some[i]), i + 1);
        }
        due("in rising order", b.draft(), "0 7 7 19 20 21");
        due("one of two that are the same", b.it.take(1), 7);
        due("the other one stays", b.draft(), "0 7 19 20 21");
    }

    private static void formulasToPut() {
        for (int n : new int[] {LEAST, -1, 34, 80, GREATEST}) {
            refused("formula " + n, () -> draft(5), b -> b.it.put(n), ARGUMENT);
            refused("formula " + n + ", a full draft", () -> draft(32), b -> b.it.put(n), ARGUMENT);
        }
        allowed("the first formula", () -> draft(), b -> b.it.put(0), 1);
        allowed("the last formula", () -> draft(), b -> b.it.put(33), 1);
    }

    private static void placesToTake() {
        int[] full = {1, 3, 5, 7, 9, 11, 13, 15};
        for (int many = 0; many <= 8; many++) {
            int[] some = Arrays.copyOf(full, many);
            for (int i : new int[] {LEAST, -1, many, many + 1, 8, 9, GREATEST}) {
                refused(i + " of " + many, () -> draft(some), b -> b.it.take(i), NONE);
            }
            for (int i = 0; i < many; i++) {
                Bench b = draft(some);
                due(i + " of " + many, b.it.take(i), full[i]);
                due("the one behind it", b.it.draft(i), i + 1 < many ? full[i + 1] : NONE);
                due("no more than the others", b.it.draft(many - 1), NONE);
            }
        }
    }

    private static void placesOfDraft() {
        int[] full = {1, 3, 5, 7, 9, 11, 13, 15};
        for (int many = 0; many <= 8; many++) {
            Bench b = draft(Arrays.copyOf(full, many));
            for (int i = 0; i < many; i++) {
                due(i + " of " + many, b.it.draft(i), full[i]);
            }
            for (int i : new int[] {LEAST, -2, -1, many, many + 1, 8, 9, GREATEST}) {
                due(i + " of " + many, b.it.draft(i), NONE);
            }
        }
    }

    public static void main(String[] args) {
        test("THE DRAFT is a sequent of at most 8 formulas", () -> eightFormulas());
        test("THE DRAFT: with at most 8 leaves together", () -> eightLeaves());
        test("THE DRAFT: at first none", () -> emptyAtFirst());
        test("A SEQUENT is in rising order (perhaps the same one several times)", () -> risingOrder());
        test("promise 8: IllegalArgumentException for a formula that there is not", () -> formulasToPut());
        test("promise 9: NONE when there is none", () -> placesToTake());
        test("promise 10: NONE when there is none", () -> placesOfDraft());
        end("sentences on the draft");
    }
}
