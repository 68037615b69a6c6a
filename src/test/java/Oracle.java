import java.util.ArrayList;
import java.util.Collections;
import java.util.HashMap;
import java.util.List;
import java.util.Map;
import java.util.Optional;

/**
 * The document once more, written as plainly as can be: proofs are trees that are never changed, and
 * nothing is made for speed. The program's answers are compared with its own in RandomRunsTest.
 */
final class Oracle {
    record Formula(int sign, int first, int second) { }

    record Tree(int rule, int formula, List<Integer> line, List<Tree> above) {
        int size() {
            int sum = 1;
            for (Tree t : above) {
                sum += t.size();
            }
            return sum;
        }

        int cuts() {
            int sum = rule == 9 ? 1 : 0;
            for (Tree t : above) {
                sum += t.cuts();
            }
            return sum;
        }

        void collect(List<Tree> all) {
            all.add(this);
            for (Tree t : above) {
                t.collect(all);
            }
        }
    }

    private final List<Formula> table = new ArrayList<>();
    private String text = "";
    private final List<Integer> draft = new ArrayList<>();
    private final Tree[] slots = new Tree[4];
    private final Map<List<Integer>, Optional<Tree>> found = new HashMap<>();

    Oracle() {
        for (int i = 0; i < 20; i++) {
            table.add(new Formula(-1, -1, -1));
        }
    }

    // Formulas

    private int leaves(int n) {
        Formula f = table.get(n);
        return n < 20 ? 1 : leaves(f.first()) + leaves(f.second());
    }

    private int leaves(List<Integer> line) {
        int sum = 0;
        for (int n : line) {
            sum += leaves(n);
        }
        return sum;
    }

    private int makeOrNone(int sign, int a, int b) {
        Formula wanted = new Formula(sign, a, b);
        if (table.indexOf(wanted) >= 0 && table.indexOf(wanted) >= 20) {
            return table.indexOf(wanted);
        }
        if (leaves(a) + leaves(b) > 8 || table.size() >= 80) {
            return -1;
        }
        Formula dual = new Formula(sign % 2 == 0 ? sign + 1 : sign - 1, a ^ 1, b ^ 1);
        table.add(sign % 2 == 0 ? wanted : dual);
        table.add(sign % 2 == 0 ? dual : wanted);
        return table.indexOf(wanted);
    }

    private void needFormula(int n) {
        if (n < 0 || n >= table.size()) {
            throw new IllegalArgumentException();
        }
    }

    private void needSlot(int slot) {
        if (slot < 0 || slot > 3) {
            throw new IllegalArgumentException();
        }
    }

    private String told(int n) {
        if (n < 16) {
            return (n % 2 == 1 ? "~" : "") + (char) ('a' + n / 2);
        }
        if (n < 20) {
            return new String[] {"1", "F", "0", "T"}[n - 16];
        }
        Formula f = table.get(n);
        return "(" + told(f.first()) + "*%+&".charAt(f.sign()) + told(f.second()) + ")";
    }

    boolean type(long w) {
        StringBuilder more = new StringBuilder(text);
        for (int i = 0; i < 8 && (w >> 8 * i & 255) != 0; i++) {
            more.append((char) (w >> 8 * i & 255));
        }
        for (char c : more.toString().toCharArray()) {
            if (c < 33 || c > 126) {
                return false;
            }
        }
        if (more.length() > 60) {
            return false;
        }
        text = more.toString();
        return true;
    }

    /** What parse() stops with: the place of the first character that does not fit. */
    private static final class Fault extends Exception {
        private static final long serialVersionUID = 1;
        final int place;

        Fault(int place) {
            this.place = place;
        }
    }

    private static final class Shape {
        int simple;
        boolean dual;
        int sign = -1;
        Shape left;
        Shape right;
    }

    private int place;

    private char next() throws Fault {
        if (place >= text.length()) {
            throw new Fault(text.length());
        }
        return text.charAt(place++);
    }

    private Shape parse(int open) throws Fault {
        Shape shape = new Shape();
        char c = next();
        if (c == '~') {
            shape = parse(open);
            shape.dual = !shape.dual;
        } else if (c == '(' && open < 8) {
            shape.left = parse(open + 1);
            shape.sign = "*%+&".indexOf(next());
            if (shape.sign < 0) {
                throw new Fault(place - 1);
            }
            shape.right = parse(open + 1);
            if (next() != ')') {
                throw new Fault(place - 1);
            }
        } else if ("a b c d e f g h 1F0T".indexOf(c) >= 0) {
            shape.simple = "a b c d e f g h 1F0T".indexOf(c);
        } else {
            throw new Fault(place - 1);
        }
        return shape;
    }

    private int build(Shape shape) {
        int n = shape.simple;
        if (shape.sign >= 0) {
            int a = build(shape.left);
            int b = a < 0 ? -1 : build(shape.right);
            n = b < 0 ? -1 : makeOrNone(shape.sign, a, b);
            if (n < 0) {
                return -1;
            }
        }
        return shape.dual ? n ^ 1 : n;
    }

    int read() {
        try {
            place = 0;
            Shape shape = parse(0);
            if (place < text.length()) {
                throw new Fault(place);
            }
            List<Formula> before = new ArrayList<>(table);
            int n = build(shape);
            if (n < 0) {
                table.clear();
                table.addAll(before);
                return -100;
            }
            return n;
        } catch (Fault fault) {
            return -1 - fault.place;
        } finally {
            text = "";
        }
    }

    int make(int sign, int a, int b) {
        needFormula(a);
        needFormula(b);
        if (sign < 0 || sign > 3) {
            throw new IllegalArgumentException();
        }
        int n = makeOrNone(sign, a, b);
        if (n < 0) {
            throw new IllegalStateException();
        }
        return n;
    }

    int formulas() {
        return table.size();
    }

    int about(int n, int what) {
        needFormula(n);
        if (what < 0 || what > 3) {
            throw new IllegalArgumentException();
        }
        Formula f = table.get(n);
        return new int[] {leaves(n), f.sign(), f.first(), f.second()}[what];
    }

    int written(int n, int k) {
        needFormula(n);
        return k >= 0 && k < told(n).length() ? told(n).charAt(k) : 0;
    }

    // The draft

    int put(int n) {
        needFormula(n);
        if (draft.size() + 1 > 8 || leaves(draft) + leaves(n) > 8) {
            throw new IllegalStateException();
        }
        draft.add(n);
        Collections.sort(draft);
        return draft.size();
    }

    int take(int i) {
        return i < 0 || i >= draft.size() ? -1 : draft.remove(i);
    }

    int draft(int i) {
        return i < 0 || i >= draft.size() ? -1 : draft.get(i);
    }

    // Proofs

    private static List<Integer> line(List<Integer> some, int... more) {
        List<Integer> all = new ArrayList<>(some);
        for (int n : more) {
            all.add(n);
        }
        Collections.sort(all);
        return all;
    }

    private static List<Integer> join(List<Integer> some, List<Integer> others) {
        List<Integer> all = new ArrayList<>(some);
        all.addAll(others);
        Collections.sort(all);
        return all;
    }

    /** The line without one of each of these; null when one is not there. */
    private static List<Integer> without(List<Integer> some, int... fewer) {
        List<Integer> rest = new ArrayList<>(some);
        for (int n : fewer) {
            if (!rest.remove(Integer.valueOf(n))) {
                return null;
            }
        }
        return rest;
    }

    private Tree needProof(int slot) {
        if (slots[slot] == null) {
            throw new IllegalStateException();
        }
        return slots[slot];
    }

    private void needSign(int n, int sign) {
        needFormula(n);
        if (table.get(n).sign() != sign) {
            throw new IllegalArgumentException();
        }
    }

    private static void needLine(List<Integer> line) {
        if (line == null) {
            throw new IllegalStateException();
        }
    }

    private int keep(int slot, Tree tree) {
        if (tree.size() > 100 || tree.line().size() > 8 || leaves(tree.line()) > 12) {
            throw new UnsupportedOperationException();
        }
        slots[slot] = tree;
        return tree.size();
    }

    int axiom(int slot, int k) {
        needSlot(slot);
        if (k < 0 || k > 7) {
            throw new IllegalArgumentException();
        }
        return keep(slot, new Tree(0, 2 * k, List.of(2 * k, 2 * k + 1), List.of()));
    }

    int one(int slot) {
        needSlot(slot);
        return keep(slot, new Tree(1, 16, List.of(16), List.of()));
    }

    int top(int slot) {
        needSlot(slot);
        return keep(slot, new Tree(2, 19, line(draft, 19), List.of()));
    }

    int bottom(int slot) {
        needSlot(slot);
        Tree p = needProof(slot);
        return keep(slot, new Tree(3, 17, line(p.line(), 17), List.of(p)));
    }

    int par(int slot, int n) {
        needSlot(slot);
        needSign(n, 1);
        Tree p = needProof(slot);
        List<Integer> g = without(p.line(), table.get(n).first(), table.get(n).second());
        needLine(g);
        return keep(slot, new Tree(4, n, line(g, n), List.of(p)));
    }

    int plus(int slot, int n, boolean right) {
        needSlot(slot);
        needSign(n, 2);
        Tree p = needProof(slot);
        List<Integer> g = without(p.line(), right ? table.get(n).second() : table.get(n).first());
        needLine(g);
        return keep(slot, new Tree(right ? 7 : 6, n, line(g, n), List.of(p)));
    }

    int with(int slot, int other, int n) {
        needSlot(slot);
        needSlot(other);
        needSign(n, 3);
        Tree p = needProof(slot);
        Tree q = needProof(other);
        List<Integer> g = without(p.line(), table.get(n).first());
        List<Integer> h = without(q.line(), table.get(n).second());
        needLine(g);
        needLine(g.equals(h) ? h : null);
        return keep(slot, new Tree(5, n, line(g, n), List.of(p, q)));
    }

    int times(int slot, int other, int n) {
        needSlot(slot);
        needSlot(other);
        needSign(n, 0);
        Tree p = needProof(slot);
        Tree q = needProof(other);
        List<Integer> g = without(p.line(), table.get(n).first());
        List<Integer> h = without(q.line(), table.get(n).second());
        needLine(g);
        needLine(h);
        return keep(slot, new Tree(8, n, line(join(g, h), n), List.of(p, q)));
    }

    int cut(int slot, int other, int n) {
        needSlot(slot);
        needSlot(other);
        needFormula(n);
        Tree p = needProof(slot);
        Tree q = needProof(other);
        needLine(without(p.line(), n));
        needLine(without(q.line(), n ^ 1));
        return keep(slot, cutOf(n, p, q));
    }

    private static Tree cutOf(int n, Tree p, Tree q) {
        return new Tree(9, n, join(without(p.line(), n), without(q.line(), n ^ 1)), List.of(p, q));
    }

    int drop(int slot) {
        int had = nodes(slot);
        slots[slot] = null;
        return had;
    }

    // The search

    private Tree found(List<Integer> s) {
        Optional<Tree> known = found.get(s);
        if (known == null) {
            known = Optional.ofNullable(search(s));
            found.put(List.copyOf(s), known);
        }
        return known.orElse(null);
    }

    private Tree by(int rule, int n, List<Integer> s, List<List<Integer>> premises) {
        List<Tree> above = new ArrayList<>();
        for (List<Integer> premise : premises) {
            Tree tree = found(premise);
            if (tree == null) {
                return null;
            }
            above.add(tree);
        }
        return new Tree(rule, n, List.copyOf(s), above);
    }

    private Tree search(List<Integer> s) {
        for (int n : s) {
            if (n > 16 && n % 2 == 1) {
                return byOdd(n, s, without(s, n));
            }
        }
        if (s.size() == 2 && s.get(0) < 16 && s.get(0) % 2 == 0 && s.get(1) == s.get(0) + 1) {
            return by(0, s.get(0), s, List.of());
        }
        if (s.equals(List.of(16))) {
            return by(1, 16, s, List.of());
        }
        for (int n : s) {
            Tree tree = n > 19 ? byEven(n, s, without(s, n)) : null;
            if (tree != null) {
                return tree;
            }
        }
        return null;
    }

    private Tree byOdd(int n, List<Integer> s, List<Integer> g) {
        int a = table.get(n).first();
        int b = table.get(n).second();
        if (n == 17) {
            return by(3, n, s, List.of(g));
        }
        if (n == 19) {
            return by(2, n, s, List.of());
        }
        return table.get(n).sign() == 1
            ? by(4, n, s, List.of(line(g, a, b)))
            : by(5, n, s, List.of(line(g, a), line(g, b)));
    }

    private Tree byEven(int n, List<Integer> s, List<Integer> others) {
        int a = table.get(n).first();
        int b = table.get(n).second();
        if (table.get(n).sign() == 2) {
            Tree left = by(6, n, s, List.of(line(others, a)));
            return left != null ? left : by(7, n, s, List.of(line(others, b)));
        }
        for (int m = 0; m < 1 << others.size(); m++) {
            List<Integer> g = new ArrayList<>();
            List<Integer> h = new ArrayList<>();
            for (int i = 0; i < others.size(); i++) {
                ((m >> i & 1) == 1 ? g : h).add(others.get(i));
            }
            Tree tree = by(8, n, s, List.of(line(g, a), line(h, b)));
            if (tree != null) {
                return tree;
            }
        }
        return null;
    }

    boolean prove(int slot) {
        needSlot(slot);
        Tree tree = found(draft);
        if (tree == null) {
            return false;
        }
        slots[slot] = tree;
        return true;
    }

    // Steps

    private Tree stepped(Tree tree) {
        if (tree.rule() == 9 && tree.cuts() == 1) {
            return changed(tree.formula(), tree.above().get(0), tree.above().get(1), tree.line());
        }
        List<Tree> above = new ArrayList<>();
        boolean done = false;
        for (Tree t : tree.above()) {
            above.add(!done && t.cuts() > 0 ? stepped(t) : t);
            done |= t.cuts() > 0;
        }
        return new Tree(tree.rule(), tree.formula(), tree.line(), above);
    }

    private Tree changed(int n, Tree l, Tree r, List<Integer> gh) {
        if (l.rule() == 0) {
            return r;
        }
        if (r.rule() == 0) {
            return l;
        }
        if (l.formula() != n) {
            List<Tree> above = new ArrayList<>();
            for (int i : cutWhere(l, n)) {
                above.add(i < 0 ? l.above().get(-1 - i) : cutOf(n, l.above().get(i), r));
            }
            return new Tree(l.rule(), l.formula(), gh, above);
        }
        if (r.formula() != (n ^ 1)) {
            List<Tree> above = new ArrayList<>();
            for (int i : cutWhere(r, n ^ 1)) {
                above.add(i < 0 ? r.above().get(-1 - i) : cutOf(n, l, r.above().get(i)));
            }
            return new Tree(r.rule(), r.formula(), gh, above);
        }
        if (n == 16) {
            return r.above().get(0);
        }
        if (n == 17) {
            return l.above().get(0);
        }
        Tree even = l.rule() >= 6 ? l : r;
        Tree odd = l.rule() >= 6 ? r : l;
        int a = table.get(even.formula()).first();
        int b = table.get(even.formula()).second();
        Tree p = even.above().get(0);
        if (even.rule() == 8) {
            return cutOf(a, p, cutOf(b, even.above().get(1), odd.above().get(0)));
        }
        return even.rule() == 6 ? cutOf(a, p, odd.above().get(0)) : cutOf(b, p, odd.above().get(1));
    }

    /** The premises of a tree in order: i for one that gets the CUT, -1 - i for one that stays. */
    private int[] cutWhere(Tree tree, int sought) {
        if (tree.rule() == 2) {
            return new int[0];
        }
        if (tree.rule() == 5) {
            return new int[] {0, 1};
        }
        if (tree.rule() == 8) {
            List<Integer> rest = without(tree.above().get(0).line(), table.get(tree.formula()).first());
            return rest.contains(sought) ? new int[] {0, -2} : new int[] {-1, 1};
        }
        return new int[] {0};
    }

    int step(int slot) {
        needSlot(slot);
        Tree tree = needProof(slot);
        if (tree.cuts() == 0) {
            return -1;
        }
        Tree next = stepped(tree);
        if (next.size() > 100) {
            throw new UnsupportedOperationException();
        }
        slots[slot] = next;
        return next.cuts();
    }

    int eliminate(int slot) {
        needSlot(slot);
        Tree tree = needProof(slot);
        int steps = 0;
        while (tree.cuts() > 0) {
            if (steps == 300) {
                throw new UnsupportedOperationException();
            }
            tree = stepped(tree);
            steps++;
            if (tree.size() > 100) {
                throw new UnsupportedOperationException();
            }
        }
        slots[slot] = tree;
        return steps;
    }

    // What proofs are like

    int nodes(int slot) {
        needSlot(slot);
        return slots[slot] == null ? 0 : slots[slot].size();
    }

    int cuts(int slot) {
        needSlot(slot);
        return slots[slot] == null ? 0 : slots[slot].cuts();
    }

    private Tree needNode(int slot, int k) {
        List<Tree> all = new ArrayList<>();
        if (slots[slot] != null) {
            slots[slot].collect(all);
        }
        if (k < 0 || k >= all.size()) {
            throw new IndexOutOfBoundsException();
        }
        return all.get(k);
    }

    int node(int slot, int k, int what) {
        needSlot(slot);
        if (what < 0 || what > 3) {
            throw new IllegalArgumentException();
        }
        Tree t = needNode(slot, k);
        return new int[] {t.rule(), t.formula(), t.line().size(), t.size()}[what];
    }

    int conclusion(int slot, int k, int i) {
        needSlot(slot);
        List<Integer> line = needNode(slot, k).line();
        return i < 0 || i >= line.size() ? -1 : line.get(i);
    }
}
