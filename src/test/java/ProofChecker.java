import java.util.ArrayList;
import java.util.Collections;
import java.util.List;

/** Looks whether each node of a proof is as its rule asks, by the table of rules alone. */
final class ProofChecker {
    private final ProofWorkbench bench;
    private final int slot;

    ProofChecker(ProofWorkbench bench, int slot) {
        this.bench = bench;
        this.slot = slot;
    }

    /** The first node that is not as its rule asks; -1 when there is none. */
    int firstWrong() {
        int nodes = bench.nodes(slot);
        for (int k = 0; k < nodes; k++) {
            if (!fits(k)) {
                return k;
            }
        }
        return -1;
    }

    private List<Integer> line(int k) {
        List<Integer> line = new ArrayList<>();
        for (int i = 0; i < bench.node(slot, k, 2); i++) {
            line.add(bench.conclusion(slot, k, i));
        }
        return line;
    }

    private static List<Integer> sum(List<Integer> some, int... more) {
        List<Integer> all = new ArrayList<>(some);
        for (int n : more) {
            all.add(n);
        }
        Collections.sort(all);
        return all;
    }

    private static List<Integer> joined(List<Integer> some, List<Integer> others) {
        List<Integer> all = new ArrayList<>(some);
        all.addAll(others);
        Collections.sort(all);
        return all;
    }

    private boolean fits(int k) {
        int rule = bench.node(slot, k, 0);
        int n = bench.node(slot, k, 1);
        int premises = rule < 3 ? 0 : rule == 5 || rule >= 8 ? 2 : 1;
        List<Integer> here = line(k);
        int second = premises < 2 ? -1 : k + 1 + bench.node(slot, k + 1, 3);
        int size = premises < 1 ? 1 : 1 + bench.node(slot, k + 1, 3);
        size += premises < 2 ? 0 : bench.node(slot, second, 3);
        if (bench.node(slot, k, 3) != size || !here.equals(sum(here))) {
            return false;
        }
        int a = bench.about(n, 2);
        int b = bench.about(n, 3);
        int sign = bench.about(n, 1);
        List<Integer> p = premises > 0 ? line(k + 1) : List.of();
        List<Integer> q = premises > 1 ? line(second) : List.of();
        switch (rule) {
            case 0: return n < 16 && n % 2 == 0 && here.equals(List.of(n, n + 1));
            case 1: return n == 16 && here.equals(List.of(16));
            case 2: return n == 19 && here.contains(19);
            case 3: return n == 17 && here.equals(sum(p, 17));
            case 4: return sign == 1 && sum(here, a, b).equals(sum(p, n)) && here.contains(n);
            case 5:
                return sign == 3 && here.contains(n) && sum(here, a).equals(sum(p, n))
                    && sum(here, b).equals(sum(q, n));
            case 6: return sign == 2 && here.contains(n) && sum(here, a).equals(sum(p, n));
            case 7: return sign == 2 && here.contains(n) && sum(here, b).equals(sum(p, n));
            case 8: return sign == 0 && p.contains(a) && q.contains(b) && sum(joined(p, q), n).equals(sum(here, a, b));
            case 9: return p.contains(n) && q.contains(n ^ 1) && joined(p, q).equals(sum(here, n, n ^ 1));
            default: return false;
        }
    }
}
