/** A ProofWorkbench together with what the tests need to fill it and to tell what it holds. */
final class Bench {
    final ProofWorkbench it = new ProofWorkbench();

    /** Types a text, eight characters a call: whether every call took its own. */
    boolean typed(String text) {
        boolean all = true;
        for (int i = 0; i < text.length(); i += 8) {
            all &= it.type(packed(text.substring(i, Math.min(text.length(), i + 8))));
        }
        return all;
    }

    static long packed(String eight) {
        long w = 0;
        for (int i = eight.length() - 1; i >= 0; i--) {
            w = w << 8 | eight.charAt(i);
        }
        return w;
    }

    int read(String text) {
        typed(text);
        return it.read();
    }

    String written(int n) {
        StringBuilder text = new StringBuilder();
        for (int k = 0; it.written(n, k) != 0; k++) {
            text.append(it.written(n, k));
        }
        return text.toString();
    }

    String draft() {
        StringBuilder text = new StringBuilder();
        for (int i = 0; it.draft(i) != ProofWorkbench.NONE; i++) {
            text.append(i == 0 ? "" : " ").append(it.draft(i));
        }
        return text.toString();
    }

    void setDraft(int... formulas) {
        while (it.take(0) != ProofWorkbench.NONE) {
            continue;
        }
        for (int n : formulas) {
            it.put(n);
        }
    }

    void setDraft(String... texts) {
        int[] formulas = new int[texts.length];
        for (int i = 0; i < texts.length; i++) {
            formulas[i] = read(texts[i]);
        }
        setDraft(formulas);
    }

    /** The nodes in order, each as its rule, formula and conclusion, such as 3/17[16 17]. */
    String proof(int slot) {
        StringBuilder text = new StringBuilder();
        for (int k = 0; k < it.nodes(slot); k++) {
            text.append(k == 0 ? "" : " ").append(it.node(slot, k, 0)).append('/').append(it.node(slot, k, 1));
            text.append('[').append(line(slot, k)).append(']');
        }
        return text.toString();
    }

    String line(int slot, int k) {
        StringBuilder text = new StringBuilder();
        for (int i = 0; it.conclusion(slot, k, i) != ProofWorkbench.NONE; i++) {
            text.append(i == 0 ? "" : " ").append(it.conclusion(slot, k, i));
        }
        return text.toString();
    }

    /** The call's answer, or the class of what it throws. */
    Object answerOf(Check.Call call) {
        try {
            return call.apply(this);
        } catch (RuntimeException e) {
            return e.getClass();
        }
    }

    /** What a row of calls answers that has some of each kind, so that all that the object holds is told by it. */
    String answersBehind() {
        StringBuilder text = new StringBuilder(all());
        Check.Call[] calls = {
            b -> b.it.type(packed("h)")), b -> b.it.read(), b -> b.it.read(), b -> b.it.formulas(),
            b -> b.it.make(0, 12, 12), b -> b.it.make(3, 19, 12), b -> b.it.make(2, 12, 12), b -> b.allFormulas(),
            b -> b.it.prove(3), b -> b.it.put(19), b -> b.it.prove(2), b -> b.it.top(2), b -> b.it.take(0),
            b -> b.it.step(0), b -> b.it.cuts(0), b -> b.it.step(1), b -> b.all(),
            b -> b.it.cut(0, 1, 0), b -> b.it.cut(0, 2, 19), b -> b.it.bottom(0), b -> b.it.bottom(1), b -> b.all(),
            b -> b.it.eliminate(0), b -> b.it.eliminate(1), b -> b.it.nodes(0), b -> b.all(),
            b -> b.it.axiom(3, 7), b -> b.it.one(1), b -> b.all(), b -> b.it.drop(0), b -> b.it.drop(2), b -> b.all(),
        };
        for (Check.Call call : calls) {
            text.append('\n').append(answerOf(call));
        }
        return text.toString();
    }

    /** Every formula as it is written, with what there is about it. */
    String allFormulas() {
        StringBuilder text = new StringBuilder();
        for (int n = 0; n < it.formulas(); n++) {
            text.append(written(n));
            for (int what = 0; what < 4; what++) {
                text.append(' ').append(it.about(n, what));
            }
            text.append(", ");
        }
        return text.toString();
    }

    /** All that can be seen of the object, but for its text, which only reading tells. */
    String all() {
        StringBuilder text = new StringBuilder();
        text.append(it.formulas()).append(" | ").append(draft());
        for (int slot = 0; slot < 4; slot++) {
            text.append(" | ").append(proof(slot));
        }
        return text.toString();
    }
}
