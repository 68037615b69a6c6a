/**
 * A workbench for proofs in which every formula is used just once. The numbered promises of the
 * document say what each call answers; README.md says how to use and test this class.
 */
public final class ProofWorkbench {
    public static final int NONE = -1;

    private static final int UNIT = 16;
    private static final int FALSUM = 17;
    private static final int VERUM = 19;
    private static final int FIRST_COMPOUND = 20;

    private static final int LETTERS = 8;
    private static final int MOST_PAIRS = 30;
    private static final int MOST_FORMULAS = FIRST_COMPOUND + 2 * MOST_PAIRS;
    private static final int MOST_LEAVES = 8;

    private static final int SIGN_TIMES = 0;
    private static final int SIGN_PAR = 1;
    private static final int SIGN_PLUS = 2;
    private static final int SIGN_WITH = 3;
    private static final String SIGNS = "*%+&";
    private static final String CONSTANTS = "1F0T";

    private static final int AXIOM = 0;
    private static final int ONE = 1;
    private static final int TOP = 2;
    private static final int BOTTOM = 3;
    private static final int PAR = 4;
    private static final int WITH = 5;
    private static final int LEFT = 6;
    private static final int RIGHT = 7;
    private static final int TIMES = 8;
    private static final int CUT = 9;

    private static final int SLOTS = 4;
    private static final int MOST_NODES = 100;
    private static final int MOST_DRAFT = 8;
    private static final int MOST_LINE = 8;
    private static final int MOST_LINE_LEAVES = 12;
    private static final int MOST_STEPS = 300;

    private final FormulaTable table = new FormulaTable();
    private final Reader reader = new Reader(table);
    private final Writer writer = new Writer(table);
    private final Sequent goal = new Sequent();
    private final Sequent spare = new Sequent();
    private final Proof[] slots = new Proof[SLOTS];
    private final Proof scratch = new Proof();
    private final Finder finder = new Finder(table, scratch);
    private final Stepper stepper = new Stepper(table);

    public ProofWorkbench() {
        for (int i = 0; i < SLOTS; i++) {
            slots[i] = new Proof();
        }
    }

    public boolean type(long w) {
        return reader.append(w);
    }

    public int read() {
        return reader.readAll();
    }

    public int make(int sign, int a, int b) throws IllegalArgumentException, IllegalStateException {
        requireFormula(a);
        requireFormula(b);
        if (sign < SIGN_TIMES || sign > SIGN_WITH) {
            throw new IllegalArgumentException();
        }
        int n = table.numberOf(sign, a, b);
        if (n == NONE) {
            throw new IllegalStateException();
        }
        return n;
    }

    public int formulas() {
        return table.size();
    }

    public int about(int n, int what) throws IllegalArgumentException {
        requireFormula(n);
        switch (what) {
            case 0:
                return table.leavesOf(n);
            case 1:
                return table.signOf(n);
            case 2:
                return table.firstOf(n);
            case 3:
                return table.secondOf(n);
            default:
                throw new IllegalArgumentException();
        }
    }

    public char written(int n, int k) throws IllegalArgumentException {
        requireFormula(n);
        return writer.charOf(n, k);
    }

    public int put(int n) throws IllegalArgumentException, IllegalStateException {
        requireFormula(n);
        if (goal.size() >= MOST_DRAFT || table.leavesOfAll(goal) + table.leavesOf(n) > MOST_LEAVES) {
            throw new IllegalStateException();
        }
        goal.insert(n);
        return goal.size();
    }

    public int take(int i) {
        int n = goal.at(i);
        if (n != NONE) {
            goal.removeOne(n);
        }
        return n;
    }

    public int draft(int i) {
        return goal.at(i);
    }

    public int axiom(int slot, int k) throws IllegalArgumentException {
        requireSlot(slot);
        if (k < 0 || k >= LETTERS) {
            throw new IllegalArgumentException();
        }
        Sequent line = begin(AXIOM, 2 * k);
        line.insert(2 * k);
        line.insert(2 * k + 1);
        return finish(slot);
    }

    public int one(int slot) throws IllegalArgumentException {
        requireSlot(slot);
        Sequent line = begin(ONE, UNIT);
        line.insert(UNIT);
        return finish(slot);
    }

    public int top(int slot) throws IllegalArgumentException, UnsupportedOperationException {
        requireSlot(slot);
        Sequent line = begin(TOP, VERUM);
        line.setTo(goal);
        line.insert(VERUM);
        return finish(slot);
    }

    public int bottom(int slot)
            throws IllegalArgumentException, IllegalStateException, UnsupportedOperationException {
        requireSlot(slot);
        Proof above = requireProof(slot);
        Sequent line = begin(BOTTOM, FALSUM);
        line.setTo(above.rootLine());
        line.insert(FALSUM);
        scratch.copyAll(above);
        return finish(slot);
    }

    public int par(int slot, int n)
            throws IllegalArgumentException, IllegalStateException, UnsupportedOperationException {
        requireSlot(slot);
        requireSign(n, SIGN_PAR);
        Proof above = requireProof(slot);
        Sequent line = begin(PAR, n);
        if (!line.setWithout(above.rootLine(), table.firstOf(n)) || !line.removeOne(table.secondOf(n))) {
            throw new IllegalStateException();
        }
        line.insert(n);
        scratch.copyAll(above);
        return finish(slot);
    }

    public int plus(int slot, int n, boolean right)
            throws IllegalArgumentException, IllegalStateException, UnsupportedOperationException {
        requireSlot(slot);
        requireSign(n, SIGN_PLUS);
        Proof above = requireProof(slot);
        Sequent line = begin(right ? RIGHT : LEFT, n);
        if (!line.setWithout(above.rootLine(), right ? table.secondOf(n) : table.firstOf(n))) {
            throw new IllegalStateException();
        }
        line.insert(n);
        scratch.copyAll(above);
        return finish(slot);
    }

    public int with(int slot, int other, int n)
            throws IllegalArgumentException, IllegalStateException, UnsupportedOperationException {
        requireSlot(slot);
        requireSlot(other);
        requireSign(n, SIGN_WITH);
        Sequent line = beginOfTwo(slot, table.firstOf(n), other, table.secondOf(n), WITH, n);
        if (!line.sameAs(spare)) {
            throw new IllegalStateException();
        }
        line.insert(n);
        return finish(slot);
    }

    public int times(int slot, int other, int n)
            throws IllegalArgumentException, IllegalStateException, UnsupportedOperationException {
        requireSlot(slot);
        requireSlot(other);
        requireSign(n, SIGN_TIMES);
        Sequent line = beginOfTwo(slot, table.firstOf(n), other, table.secondOf(n), TIMES, n);
        line.insertAll(spare);
        line.insert(n);
        return finish(slot);
    }

    public int cut(int slot, int other, int n)
            throws IllegalArgumentException, IllegalStateException, UnsupportedOperationException {
        requireSlot(slot);
        requireSlot(other);
        requireFormula(n);
        Sequent line = beginOfTwo(slot, n, other, n ^ 1, CUT, n);
        line.insertAll(spare);
        return finish(slot);
    }

    public int drop(int slot) throws IllegalArgumentException {
        requireSlot(slot);
        int had = slots[slot].size();
        slots[slot].empty();
        return had;
    }

    public boolean prove(int slot) throws IllegalArgumentException {
        requireSlot(slot);
        if (!finder.find(goal)) {
            return false;
        }
        slots[slot].setTo(scratch);
        return true;
    }

    public int step(int slot)
            throws IllegalArgumentException, IllegalStateException, UnsupportedOperationException {
        requireSlot(slot);
        stepper.load(requireProof(slot));
        if (!stepper.advance()) {
            return NONE;
        }
        return keepStepped(slot);
    }

    public int eliminate(int slot)
            throws IllegalArgumentException, IllegalStateException, UnsupportedOperationException {
        requireSlot(slot);
        stepper.load(requireProof(slot));
        int steps = 0;
        while (steps < MOST_STEPS && !stepper.result().isOver() && stepper.advance()) {
            steps++;
        }
        if (stepper.result().countCuts() > 0) {
            throw new UnsupportedOperationException();
        }
        keepStepped(slot);
        return steps;
    }

    public int nodes(int slot) throws IllegalArgumentException {
        requireSlot(slot);
        return slots[slot].size();
    }

    public int cuts(int slot) throws IllegalArgumentException {
        requireSlot(slot);
        return slots[slot].countCuts();
    }

    public int node(int slot, int k, int what) throws IllegalArgumentException, IndexOutOfBoundsException {
        requireSlot(slot);
        if (what < 0 || what > 3) {
            throw new IllegalArgumentException();
        }
        Node node = requireNode(slot, k);
        switch (what) {
            case 0:
                return node.rule;
            case 1:
                return node.formula;
            case 2:
                return node.line.size();
            default:
                return node.size;
        }
    }

    public int conclusion(int slot, int k, int i) throws IllegalArgumentException, IndexOutOfBoundsException {
        requireSlot(slot);
        return requireNode(slot, k).line.at(i);
    }

    private void requireSlot(int slot) {
        if (slot < 0 || slot >= SLOTS) {
            throw new IllegalArgumentException();
        }
    }

    private void requireFormula(int n) {
        if (!table.has(n)) {
            throw new IllegalArgumentException();
        }
    }

    private void requireSign(int n, int sign) {
        if (!table.has(n) || table.signOf(n) != sign) {
            throw new IllegalArgumentException();
        }
    }

    private Proof requireProof(int slot) {
        if (slots[slot].size() == 0) {
            throw new IllegalStateException();
        }
        return slots[slot];
    }

    private Node requireNode(int slot, int k) {
        if (k < 0 || k >= slots[slot].size()) {
            throw new IndexOutOfBoundsException();
        }
        return slots[slot].nodeAt(k);
    }

    /** Proofs are put together in the scratch one, so that a call that throws leaves its slot as it was. */
    private Sequent begin(int rule, int n) {
        scratch.empty();
        return scratch.nodeAt(scratch.open(rule, n)).line;
    }

    /** The conclusions without a and without b are left in the answered line and in the spare one. */
    private Sequent beginOfTwo(int slot, int a, int other, int b, int rule, int n) {
        Proof first = requireProof(slot);
        Proof second = requireProof(other);
        Sequent line = begin(rule, n);
        if (!line.setWithout(first.rootLine(), a) || !spare.setWithout(second.rootLine(), b)) {
            throw new IllegalStateException();
        }
        scratch.copyAll(first);
        scratch.copyAll(second);
        return line;
    }

    private int finish(int slot) {
        Sequent line = scratch.rootLine();
        if (scratch.isOver() || line.size() > MOST_LINE || table.leavesOfAll(line) > MOST_LINE_LEAVES) {
            throw new UnsupportedOperationException();
        }
        scratch.close(0);
        slots[slot].setTo(scratch);
        return slots[slot].size();
    }

    private int keepStepped(int slot) {
        if (stepper.result().isOver()) {
            throw new UnsupportedOperationException();
        }
        slots[slot].setTo(stepper.result());
        return slots[slot].countCuts();
    }

    /** All formulas by their numbers, each compound one next to its dual. */
    private static final class FormulaTable {
        private final int[] signs = new int[MOST_FORMULAS];
        private final int[] firsts = new int[MOST_FORMULAS];
        private final int[] seconds = new int[MOST_FORMULAS];
        private final int[] leaves = new int[MOST_FORMULAS];
        private int count = FIRST_COMPOUND;

        int size() {
            return count;
        }

        boolean has(int n) {
            return n >= 0 && n < count;
        }

        boolean isCompound(int n) {
            return n >= FIRST_COMPOUND && n < count;
        }

        int leavesOf(int n) {
            return isCompound(n) ? leaves[n] : 1;
        }

        int leavesOfAll(Sequent line) {
            int sum = 0;
            for (int i = 0; i < line.size(); i++) {
                sum += leavesOf(line.at(i));
            }
            return sum;
        }

        int signOf(int n) {
            return isCompound(n) ? signs[n] : NONE;
        }

        int firstOf(int n) {
            return isCompound(n) ? firsts[n] : NONE;
        }

        int secondOf(int n) {
            return isCompound(n) ? seconds[n] : NONE;
        }

        /** The formula of two parts, made if need be; NONE when there is no room for it. */
        int numberOf(int sign, int a, int b) {
            for (int n = FIRST_COMPOUND; n < count; n++) {
                if (signs[n] == sign && firsts[n] == a && seconds[n] == b) {
                    return n;
                }
            }
            int sum = leavesOf(a) + leavesOf(b);
            if (sum > MOST_LEAVES || count + 2 > MOST_FORMULAS) {
                return NONE;
            }
            // The signs of duals are each other's neighbours too, * and + being even as their numbers are.
            int n = count + (sign & 1);
            set(n, sign, a, b, sum);
            set(n ^ 1, sign ^ 1, a ^ 1, b ^ 1, sum);
            count += 2;
            return n;
        }

        /** Unmakes the last formulas, so that there are as many as before they were made. */
        void shrinkTo(int before) {
            count = Math.max(FIRST_COMPOUND, Math.min(count, before));
        }

        private void set(int n, int sign, int a, int b, int sum) {
            signs[n] = sign;
            firsts[n] = a;
            seconds[n] = b;
            leaves[n] = sum;
        }
    }

    /** Holds the text, and reads it from left to right with the open brackets on a stack. */
    private static final class Reader {
        private static final int MOST_TEXT = 60;
        private static final int MOST_OPEN = 8;
        private static final int TOO_MUCH = -100;

        private final FormulaTable table;
        private final char[] text = new char[MOST_TEXT];
        private int length = 0;

        private final int[] outerDuals = new int[MOST_OPEN];
        private final int[] lefts = new int[MOST_OPEN];
        private final int[] signs = new int[MOST_OPEN];
        private int open = 0;
        private int dual = 0;
        private int value = 0;
        private boolean complete = false;
        private boolean tooMuch = false;

        Reader(FormulaTable table) {
            this.table = table;
        }

        boolean append(long w) {
            int end = length;
            for (int i = 0; i < 8; i++) {
                int c = (int) (w >>> (8 * i)) & 255;
                if (c == 0) {
                    break;
                }
                if (c < 33 || c > 126 || end >= MOST_TEXT) {
                    return false;
                }
                // Behind the length nothing counts, so a refused call may leave characters here.
                text[end] = (char) c;
                end++;
            }
            length = end;
            return true;
        }

        int readAll() {
            int before = table.size();
            int fault = firstFault();
            length = 0;
            if (fault == NONE && !tooMuch) {
                return value;
            }
            table.shrinkTo(before);
            return fault == NONE ? TOO_MUCH : -1 - fault;
        }

        private int firstFault() {
            open = 0;
            dual = 0;
            complete = false;
            tooMuch = false;
            for (int i = 0; i < length; i++) {
                if (!(complete ? goOn(text[i]) : start(text[i]))) {
                    return i;
                }
            }
            return complete && open == 0 ? NONE : length;
        }

        private boolean start(char c) {
            if (c == '~') {
                dual ^= 1;
                return true;
            }
            if (c == '(') {
                return openBracket();
            }
            int n = simple(c);
            if (n == NONE) {
                return false;
            }
            value = n ^ dual;
            complete = true;
            return true;
        }

        private boolean openBracket() {
            if (open >= MOST_OPEN) {
                return false;
            }
            outerDuals[open] = dual;
            signs[open] = NONE;
            open++;
            dual = 0;
            return true;
        }

        private boolean goOn(char c) {
            if (open == 0) {
                return false;
            }
            int at = open - 1;
            if (signs[at] != NONE) {
                return c == ')' && closeBracket(at);
            }
            signs[at] = SIGNS.indexOf(c);
            lefts[at] = value;
            dual = 0;
            complete = false;
            return signs[at] != NONE;
        }

        private boolean closeBracket(int at) {
            int made = table.numberOf(signs[at], lefts[at], value);
            if (made == NONE) {
                // The rest is still looked at, since a fault behind it comes first.
                tooMuch = true;
                made = 0;
            }
            value = made ^ outerDuals[at];
            open = at;
            return true;
        }

        private static int simple(char c) {
            if (c >= 'a' && c < 'a' + LETTERS) {
                return 2 * (c - 'a');
            }
            int constant = CONSTANTS.indexOf(c);
            return constant < 0 ? NONE : UNIT + constant;
        }
    }

    /** Writes formulas out. */
    private static final class Writer {
        // Eight leaves of two characters, and seven times two brackets and a sign.
        private static final int MOST_WRITTEN = 37;

        private final FormulaTable table;
        private final char[] text = new char[MOST_WRITTEN];
        private int length = 0;

        Writer(FormulaTable table) {
            this.table = table;
        }

        char charOf(int n, int k) {
            length = 0;
            append(n, 0);
            return k >= 0 && k < length ? text[k] : 0;
        }

        private void append(int n, int depth) {
            if (depth > MOST_LEAVES) {
                return;
            }
            if (table.isCompound(n)) {
                add('(');
                append(table.firstOf(n), depth + 1);
                add(SIGNS.charAt(table.signOf(n)));
                append(table.secondOf(n), depth + 1);
                add(')');
            } else if (n >= UNIT && n < FIRST_COMPOUND) {
                add(CONSTANTS.charAt(n - UNIT));
            } else {
                addLetter(n);
            }
        }

        private void addLetter(int n) {
            if ((n & 1) == 1) {
                add('~');
            }
            add((char) ('a' + n / 2));
        }

        private void add(char c) {
            if (length < MOST_WRITTEN) {
                text[length] = c;
                length++;
            }
        }
    }

    /** Formulas in rising order of numbers. */
    private static final class Sequent {
        // A conclusion has at most 12 leaves when it is put together, and STEPS add fewer than the
        // 8 of a CUT's formula to that.
        private static final int WIDTH = 20;

        private final int[] items = new int[WIDTH];
        private int size = 0;

        int size() {
            return size;
        }

        int at(int i) {
            return i >= 0 && i < size ? items[i] : NONE;
        }

        void clear() {
            size = 0;
        }

        void insert(int n) {
            if (size >= WIDTH) {
                return;
            }
            int i = size;
            while (i > 0 && items[i - 1] > n) {
                items[i] = items[i - 1];
                i--;
            }
            items[i] = n;
            size++;
        }

        void insertAll(Sequent other) {
            for (int i = 0; i < other.size; i++) {
                insert(other.items[i]);
            }
        }

        /** Whether there was one to remove. */
        boolean removeOne(int n) {
            for (int i = 0; i < size; i++) {
                if (items[i] == n) {
                    size--;
                    System.arraycopy(items, i + 1, items, i, size - i);
                    return true;
                }
            }
            return false;
        }

        /** Keeps formula i when bit i is 1. */
        void keepBits(int bits) {
            int kept = 0;
            for (int i = 0; i < size; i++) {
                if ((bits >> i & 1) == 1) {
                    items[kept] = items[i];
                    kept++;
                }
            }
            size = kept;
        }

        int countOf(int n) {
            int count = 0;
            for (int i = 0; i < size; i++) {
                if (items[i] == n) {
                    count++;
                }
            }
            return count;
        }

        int leastOddFrom(int least) {
            for (int i = 0; i < size; i++) {
                if (items[i] >= least && (items[i] & 1) == 1) {
                    return items[i];
                }
            }
            return NONE;
        }

        void setTo(Sequent other) {
            size = other.size;
            System.arraycopy(other.items, 0, items, 0, size);
        }

        /** Becomes the other one without one n: whether it had one. */
        boolean setWithout(Sequent other, int n) {
            boolean left = false;
            size = 0;
            for (int i = 0; i < other.size; i++) {
                if (!left && other.items[i] == n) {
                    left = true;
                } else {
                    items[size] = other.items[i];
                    size++;
                }
            }
            return left;
        }

        boolean sameAs(Sequent other) {
            if (size != other.size) {
                return false;
            }
            for (int i = 0; i < size; i++) {
                if (items[i] != other.items[i]) {
                    return false;
                }
            }
            return true;
        }
    }

    private static final class Node {
        private final Sequent line = new Sequent();
        private int rule = AXIOM;
        private int formula = NONE;
        private int size = 1;
    }

    /** The nodes in the order in which they are counted, so that each one's premises stand right behind it. */
    private static final class Proof {
        // One node more than a proof may have: what does not fit goes there, and is never looked at.
        private final Node[] row = new Node[MOST_NODES + 1];
        private int count = 0;
        private boolean over = false;

        Proof() {
            for (int i = 0; i < row.length; i++) {
                row[i] = new Node();
            }
        }

        int size() {
            return count;
        }

        /** Whether more nodes were asked for than there may be. */
        boolean isOver() {
            return over;
        }

        Node nodeAt(int k) {
            return row[k >= 0 && k < MOST_NODES ? k : MOST_NODES];
        }

        Sequent rootLine() {
            return nodeAt(0).line;
        }

        int firstPremise(int at) {
            return at + 1;
        }

        int secondPremise(int at) {
            return at + 1 + nodeAt(at + 1).size;
        }

        int endOf(int at) {
            return at + nodeAt(at).size;
        }

        int countCuts() {
            int cuts = 0;
            for (int i = 0; i < count; i++) {
                if (row[i].rule == CUT) {
                    cuts++;
                }
            }
            return cuts;
        }

        /** The first CUT without a CUT above it: the last of the CUTS each standing above the one before. */
        int firstBareCut() {
            int found = NONE;
            int end = count;
            for (int i = 0; i < count && i < end; i++) {
                if (row[i].rule == CUT) {
                    found = i;
                    end = endOf(i);
                }
            }
            return found;
        }

        void empty() {
            shrinkTo(0);
        }

        void shrinkTo(int nodes) {
            count = Math.max(0, Math.min(count, nodes));
            over = false;
        }

        /** A new node with an empty conclusion; its premises are put in before it is closed. */
        int open(int rule, int formula) {
            int at = next();
            row[at].rule = rule;
            row[at].formula = formula;
            row[at].size = 1;
            row[at].line.clear();
            return at;
        }

        void close(int at) {
            nodeAt(at).size = count - at;
        }

        void copyNodes(Proof from, int start, int end) {
            for (int i = Math.max(0, start); i < end && i < from.count; i++) {
                Node copy = row[next()];
                copy.rule = from.row[i].rule;
                copy.formula = from.row[i].formula;
                copy.size = from.row[i].size;
                copy.line.setTo(from.row[i].line);
            }
        }

        void copyAll(Proof from) {
            copyNodes(from, 0, from.count);
        }

        void setTo(Proof from) {
            empty();
            copyAll(from);
        }

        /** The nodes that have the one at the given place above them grow with it. */
        void growBelow(int at, int more) {
            for (int i = 0; i < at && i < count; i++) {
                if (endOf(i) > at) {
                    row[i].size += more;
                }
            }
        }

        private int next() {
            if (count >= MOST_NODES) {
                over = true;
                return MOST_NODES;
            }
            count++;
            return count - 1;
        }
    }

    /** Looks for the PROOF FOUND; a node has its sequent before it has its rule. */
    private static final class Finder {
        // The 8 leaves make at most 7 signs and 7 BOTTOMS one above the other.
        private static final int MOST_DEPTH = 20;

        private final FormulaTable table;
        private final Proof proof;
        private final Hopeless hopeless = new Hopeless();

        Finder(FormulaTable table, Proof proof) {
            this.table = table;
            this.proof = proof;
        }

        boolean find(Sequent goal) {
            proof.empty();
            int root = proof.open(AXIOM, NONE);
            proof.nodeAt(root).line.setTo(goal);
            return grow(root, 0);
        }

        private boolean grow(int at, int depth) {
            if (depth > MOST_DEPTH || proof.isOver()) {
                return false;
            }
            int n = proof.nodeAt(at).line.leastOddFrom(FALSUM);
            boolean found = n != NONE ? growOdd(at, n, depth) : growEnd(at) || growEven(at, depth);
            if (found) {
                proof.close(at);
            }
            return found;
        }

        private boolean growOdd(int at, int n, int depth) {
            if (n == VERUM) {
                choose(at, TOP, n);
                return true;
            }
            if (n == FALSUM) {
                choose(at, BOTTOM, n);
                return growPremise(at, NONE, NONE, depth);
            }
            int a = table.firstOf(n);
            int b = table.secondOf(n);
            if (table.signOf(n) == SIGN_PAR) {
                choose(at, PAR, n);
                return growPremise(at, a, b, depth);
            }
            choose(at, WITH, n);
            return growPremise(at, a, NONE, depth) && growPremise(at, b, NONE, depth);
        }

        private boolean growEnd(int at) {
            Sequent line = proof.nodeAt(at).line;
            int n = line.at(0);
            if (line.size() == 1 && n == UNIT) {
                choose(at, ONE, n);
                return true;
            }
            if (line.size() == 2 && n < UNIT && (n & 1) == 0 && line.at(1) == n + 1) {
                choose(at, AXIOM, n);
                return true;
            }
            return false;
        }

        private boolean growEven(int at, int depth) {
            Sequent line = proof.nodeAt(at).line;
            if (hopeless.has(line)) {
                return false;
            }
            for (int i = 0; i < line.size(); i++) {
                int n = line.at(i);
                int sign = n == line.at(i - 1) ? NONE : table.signOf(n);
                if (sign == SIGN_PLUS && growPlus(at, n, depth) || sign == SIGN_TIMES && growTimes(at, n, depth)) {
                    return true;
                }
            }
            hopeless.add(line);
            return false;
        }

        private boolean growPlus(int at, int n, int depth) {
            choose(at, LEFT, n);
            if (growPremise(at, table.firstOf(n), NONE, depth)) {
                return true;
            }
            choose(at, RIGHT, n);
            return growPremise(at, table.secondOf(n), NONE, depth);
        }

        private boolean growTimes(int at, int n, int depth) {
            int ways = 1 << (proof.nodeAt(at).line.size() - 1);
            for (int m = 0; m < ways; m++) {
                choose(at, TIMES, n);
                if (growShare(at, table.firstOf(n), m, depth) && growShare(at, table.secondOf(n), ~m, depth)) {
                    return true;
                }
            }
            return false;
        }

        /** Gives up what an earlier choice has put above the node. */
        private void choose(int at, int rule, int n) {
            proof.shrinkTo(at + 1);
            proof.nodeAt(at).rule = rule;
            proof.nodeAt(at).formula = n;
        }

        /** The premise that has a and b, where they are not NONE, in place of the node's formula. */
        private boolean growPremise(int at, int a, int b, int depth) {
            int above = proof.open(AXIOM, NONE);
            Sequent line = proof.nodeAt(above).line;
            line.setWithout(proof.nodeAt(at).line, proof.nodeAt(at).formula);
            if (a != NONE) {
                line.insert(a);
            }
            if (b != NONE) {
                line.insert(b);
            }
            return grow(above, depth + 1);
        }

        /** The premise of a TIMES that has a part, and those of the other formulas whose bits are 1. */
        private boolean growShare(int at, int part, int bits, int depth) {
            int above = proof.open(AXIOM, NONE);
            Sequent line = proof.nodeAt(above).line;
            line.setWithout(proof.nodeAt(at).line, proof.nodeAt(at).formula);
            line.keepBits(bits);
            line.insert(part);
            return grow(above, depth + 1);
        }
    }

    /**
     * Some of the sequents that are known to have no proof, so that a search does not try them again.
     * A newer one may take the place of an older one, which costs time but changes no answer.
     */
    private static final class Hopeless {
        private static final int BITS = 10;
        private static final long SPREAD = 0x9E3779B97F4A7C15L;

        private final long[] keys = new long[1 << BITS];

        boolean has(Sequent line) {
            long key = keyOf(line);
            return keys[placeOf(key)] == key;
        }

        void add(Sequent line) {
            long key = keyOf(line);
            keys[placeOf(key)] = key;
        }

        /** The 1 in front keeps keys apart from the 0 of an empty place. */
        private static long keyOf(Sequent line) {
            long key = 1;
            for (int i = 0; i < line.size(); i++) {
                key = key << 7 | line.at(i);
            }
            return key;
        }

        private static int placeOf(long key) {
            return (int) ((key * SPREAD) >>> (64 - BITS));
        }
    }

    /** Takes CUTS out of a copy of a proof, so that a call that throws leaves the proof as it was. */
    private static final class Stepper {
        private final FormulaTable table;
        private final Sequent spare = new Sequent();
        private Proof from = new Proof();
        private Proof to = new Proof();

        Stepper(FormulaTable table) {
            this.table = table;
        }

        void load(Proof proof) {
            to.setTo(proof);
        }

        Proof result() {
            return to;
        }

        /** Makes a STEP: false when there is no CUT to change. */
        boolean advance() {
            int at = to.firstBareCut();
            if (at == NONE) {
                return false;
            }
            Proof changed = from;
            from = to;
            to = changed;
            to.empty();
            to.copyNodes(from, 0, at);
            addChanged(at);
            to.copyNodes(from, from.endOf(at), from.size());
            to.growBelow(at, to.size() - from.size());
            return true;
        }

        private void addChanged(int at) {
            int n = from.nodeAt(at).formula;
            int left = from.firstPremise(at);
            int right = from.secondPremise(at);
            if (from.nodeAt(left).rule == AXIOM) {
                to.copyNodes(from, right, from.endOf(right));
            } else if (from.nodeAt(right).rule == AXIOM) {
                to.copyNodes(from, left, from.endOf(left));
            } else if (from.nodeAt(left).formula != n) {
                addRaised(at, left, right, true);
            } else if (from.nodeAt(right).formula != (n ^ 1)) {
                addRaised(at, right, left, false);
            } else if ((n & 1) == 0) {
                addMet(at, left, right);
            } else {
                addMet(at, right, left);
            }
        }

        /** The CUT goes above the last rule of one of its premises, the one that is taken apart. */
        private void addRaised(int at, int apart, int whole, boolean isLeft) {
            Node last = from.nodeAt(apart);
            int n = from.nodeAt(at).formula;
            int p = from.firstPremise(apart);
            int q = from.secondPremise(apart);
            int root = to.open(last.rule, last.formula);
            to.nodeAt(root).line.setTo(from.nodeAt(at).line);
            if (last.rule == WITH) {
                addCut(n, p, whole, isLeft);
                addCut(n, q, whole, isLeft);
            } else if (last.rule == TIMES && hasBeside(p, isLeft ? n : n ^ 1, table.firstOf(last.formula))) {
                addCut(n, p, whole, isLeft);
                to.copyNodes(from, q, from.endOf(q));
            } else if (last.rule == TIMES) {
                to.copyNodes(from, p, from.endOf(p));
                addCut(n, q, whole, isLeft);
            } else if (last.rule != TOP) {
                addCut(n, p, whole, isLeft);
            }
            to.close(root);
        }

        /** Whether a node's conclusion without one part has n. */
        private boolean hasBeside(int at, int n, int part) {
            return from.nodeAt(at).line.countOf(n) > (n == part ? 1 : 0);
        }

        /** Both premises are by rules of the CUT's formula; the one where it is even comes first. */
        private void addMet(int at, int even, int odd) {
            Node last = from.nodeAt(even);
            int a = table.firstOf(last.formula);
            int b = table.secondOf(last.formula);
            int p = from.firstPremise(even);
            int s = from.firstPremise(odd);
            if (last.rule == ONE) {
                to.copyNodes(from, s, from.endOf(s));
            } else if (last.rule == LEFT) {
                addCut(a, p, s, true);
            } else if (last.rule == RIGHT) {
                addCut(b, p, from.secondPremise(odd), true);
            } else {
                int root = to.open(CUT, a);
                to.nodeAt(root).line.setTo(from.nodeAt(at).line);
                to.copyNodes(from, p, from.endOf(p));
                addCut(b, from.secondPremise(even), s, true);
                to.close(root);
            }
        }

        /** The CUT of n of two nodes of the old proof, the first of which is its first premise if isLeft. */
        private void addCut(int n, int one, int other, boolean isLeft) {
            int left = isLeft ? one : other;
            int right = isLeft ? other : one;
            int root = to.open(CUT, n);
            Sequent line = to.nodeAt(root).line;
            line.setWithout(from.nodeAt(left).line, n);
            spare.setWithout(from.nodeAt(right).line, n ^ 1);
            line.insertAll(spare);
            to.copyNodes(from, left, from.endOf(left));
            to.copyNodes(from, right, from.endOf(right));
            to.close(root);
        }
    }
}
