/** A ProofWorkbench together with what the tests need to fill it and to tell what it holds. */
final class Bench {
    final ProofWorkbench it = new ProofWorkbench();

    /** Types a text, eight characters a call: whether every call took its own. */
    boolean typed(String text) {
        boolean all = true;
        for (int i = 0; i < text.length(); i += 8) {
            all &= it.type(packed(text.substring(i, Math.min(text.length(), i + 8))));
        }
        return all;
    }

    static long packed(String eight) {
        long w = 0;
        for (int i = eight.length() - 1; i >= 0; i--) {
            w = w << 8 | eight.charAt(i);
        }
        return w;
    }

    int read(String text) {
        typed(text);
        return it.read();
    }

    String written(int n) {
        StringBuilder text = new StringBuilder();
        for (int k = 0; it.written(n, k) != 0; k++) {
            text.append(it.written(n, k));
        }
        return text.toString();
    }

    String draft() {
        StringBuilder text = new StringBuilder();
        for (int i = 0; it.draft(i) != ProofWorkbench.NONE; i++) {
            text.append(i == 0 ? "" : " ").append(it.draft(i));
        }
        return text.toString();
    }

    void setDraft(int... formulas) {
        while (it.take(0) != ProofWorkbench.NONE) {
            continue;
        }
        for (int n : formulas) {
            it.put(n);
        }
    }

    void setDraft(String... texts) {
        int[] formulas = new int[texts.length];
        for (int i = 0; i < texts.length; i++) {
            formulas[i] = read(texts[i]);
        }
        setDraft(formulas);
    }

    /** The nodes in order, each as its rule, formula and conclusion, such as 3/17[16 17]. */
    String proof(int slot) {
        StringBuilder text = new StringBuilder();
        for (int k = 0; k < it.nodes(slot); k++) {
            text.append(k == 0 ? "" : " ").append(it.node(slot, k, 0)).append('/').append(it.node(slot, k, 1));
            text.append('[').append(line(slot, k)).append(']');
        }
        return text.toString();
    }

    String line(int slot, int k) {
        StringBuilder text = new StringBuilder();
        for (int i = 0; it.conclusion(slot, k, i) != ProofWorkbench.NONE; i++) {
            text.append(i == 0 ? "" : " ").append(it.conclusion(slot, k, i));
        }
        return text.toString();
    }

    /** All that can be seen of the object, but for its text, which only reading tells. */
    String all() {
        StringBuilder text = new StringBuilder();
        text.append(it.formulas()).append(" | ").append(draft());
        for (int slot = 0; slot < 4; slot++) {
            text.append(" | ").append(proof(slot));
        }
        return text.toString();
    }
}
