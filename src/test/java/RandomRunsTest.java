import java.util.ArrayList;
import java.util.List;

/**
 * Runs of calls picked by a fixed row of pseudo-random numbers, with every answer compared with the
 * Oracle's. The program does not count calls, so that all the proofs can be compared at a run's end.
 */
public final class RandomRunsTest {
    private static final String[] NAMES = {
        "type", "read", "make", "formulas", "about", "written", "put", "take", "draft", "axiom", "one", "top",
        "bottom", "par", "plus", "with", "times", "cut", "drop", "prove", "step", "eliminate", "nodes", "cuts",
        "node", "conclusion",
    };

    private static final class Run {
        final int number;
        long seed;
        final ProofWorkbench program = new ProofWorkbench();
        final Oracle oracle = new Oracle();
        int wrong = 0;

        Run(int number) {
            this.number = number;
            this.seed = number * 7919L + 17;
        }

        int pick(int below) {
            seed = seed * 6364136223846793005L + 1442695040888963407L;
            return (int) ((seed >>> 33) % below);
        }

        /** The oracle's answer, which the program's is compared with. */
        String call(String name, long a, int b, int c) {
            String due;
            String got;
            try {
                due = String.valueOf(onOracle(name, a, b, c));
            } catch (RuntimeException e) {
                due = e.getClass().getSimpleName();
            }
            try {
                got = String.valueOf(onProgram(name, a, b, c));
            } catch (RuntimeException e) {
                got = e.getClass().getSimpleName();
            }
            if (!got.equals(due)) {
                wrong++;
                System.out.println("run " + number + ": " + name + "(" + a + ", " + b + ", " + c + ") answered "
                    + got + ", due is " + due);
            }
            return due;
        }

        long onProgram(String name, long w, int b, int c) {
            int a = (int) w;
            switch (name) {
                case "type": return program.type(w) ? 1 : 0;
                case "read": return program.read();
                case "make": return program.make(a, b, c);
                case "formulas": return program.formulas();
                case "about": return program.about(a, b);
                case "written": return program.written(a, b);
                case "put": return program.put(a);
                case "take": return program.take(a);
                case "draft": return program.draft(a);
                case "axiom": return program.axiom(a, b);
                case "one": return program.one(a);
                case "top": return program.top(a);
                case "bottom": return program.bottom(a);
                case "par": return program.par(a, b);
                case "plus": return program.plus(a, b, c > 0);
                case "with": return program.with(a, b, c);
                case "times": return program.times(a, b, c);
                case "cut": return program.cut(a, b, c);
                case "drop": return program.drop(a);
                case "prove": return program.prove(a) ? 1 : 0;
                case "step": return program.step(a);
                case "eliminate": return program.eliminate(a);
                case "nodes": return program.nodes(a);
                case "cuts": return program.cuts(a);
                case "node": return program.node(a, b, c);
                default: return program.conclusion(a, b, c);
            }
        }

        long onOracle(String name, long w, int b, int c) {
            int a = (int) w;
            switch (name) {
                case "type": return oracle.type(w) ? 1 : 0;
                case "read": return oracle.read();
                case "make": return oracle.make(a, b, c);
                case "formulas": return oracle.formulas();
                case "about": return oracle.about(a, b);
                case "written": return oracle.written(a, b);
                case "put": return oracle.put(a);
                case "take": return oracle.take(a);
                case "draft": return oracle.draft(a);
                case "axiom": return oracle.axiom(a, b);
                case "one": return oracle.one(a);
                case "top": return oracle.top(a);
                case "bottom": return oracle.bottom(a);
                case "par": return oracle.par(a, b);
                case "plus": return oracle.plus(a, b, c > 0);
                case "with": return oracle.with(a, b, c);
                case "times": return oracle.times(a, b, c);
                case "cut": return oracle.cut(a, b, c);
                case "drop": return oracle.drop(a);
                case "prove": return oracle.prove(a) ? 1 : 0;
                case "step": return oracle.step(a);
                case "eliminate": return oracle.eliminate(a);
                case "nodes": return oracle.nodes(a);
                case "cuts": return oracle.cuts(a);
                case "node": return oracle.node(a, b, c);
                default: return oracle.conclusion(a, b, c);
            }
        }

        int anyFormula() {
            return pick(12) == 0 ? pick(90) - 5 : pick(oracle.formulas());
        }

        /** Few letters, so that parts of different formulas are often the same. */
        int plainFormula() {
            int n = pick(3) == 0 ? pick(20) : pick(3) == 0 ? pick(oracle.formulas()) : pick(6);
            return n;
        }

        int anySlot() {
            return pick(40) == 0 ? pick(8) - 2 : pick(4);
        }

        long anyCharacters() {
            String marks = pick(8) == 0 ? "ab~(*)%+&1F0TgZ!i" : "ab~(ab(a)*)%+&1F0T)";
            long w = 0;
            int length = pick(9);
            for (int i = 0; i < length; i++) {
                w = w << 8 | marks.charAt(pick(marks.length()));
            }
            return pick(50) == 0 ? w ^ (long) pick(256) << 8 * pick(8) : w;
        }

        void typeWritten(String text) {
            for (int i = 0; i < text.length(); i += 8) {
                long w = 0;
                for (int k = Math.min(text.length(), i + 8) - 1; k >= i; k--) {
                    w = w << 8 | text.charAt(k);
                }
                call("type", w, 0, 0);
            }
        }

        String anyWritten(int depth) {
            int kind = pick(depth > 0 ? 6 : 3);
            if (kind == 0) {
                return "~" + anyWritten(depth - 1);
            }
            if (kind < 3) {
                return String.valueOf("abcdefgh1F0T".charAt(pick(12)));
            }
            return "(" + anyWritten(depth - 1) + "*%+&".charAt(pick(4)) + anyWritten(depth - 1) + ")";
        }

        void anyCall() {
            String name = NAMES[pick(NAMES.length)];
            switch (name) {
                case "type": call(name, anyCharacters(), 0, 0); break;
                case "make": call(name, pick(30) == 0 ? pick(8) - 2 : pick(4), anyFormula(), anyFormula()); break;
                case "about": case "written": call(name, anyFormula(), pick(7) - 1, 0); break;
                case "put": call(name, anyFormula(), 0, 0); break;
                case "take": case "draft": call(name, pick(11) - 1, 0, 0); break;
                case "axiom": call(name, anySlot(), pick(10) - 1, 0); break;
                case "par": call(name, anySlot(), anyFormula(), 0); break;
                case "plus": call(name, anySlot(), anyFormula(), pick(2)); break;
                case "with": case "times": case "cut": call(name, anySlot(), anySlot(), anyFormula()); break;
                case "node": case "conclusion": call(name, anySlot(), pick(12) - 1, pick(7) - 1); break;
                default: call(name, anySlot(), 0, 0);
            }
        }

        void emptyDraft() {
            while (oracle.draft(0) >= 0) {
                call("take", pick(2), 0, 0);
                call("take", 0, 0, 0);
            }
        }

        /** A formula and its dual are always provable together, and then there is something to cut. */
        void proveDuals() {
            emptyDraft();
            int compound = oracle.formulas() - 20;
            int n = compound > 0 && pick(5) > 0 ? 20 + pick(compound) : pick(20);
            call("put", n, 0, 0);
            call("put", n ^ 1, 0, 0);
            if (pick(3) == 0) {
                call("put", pick(3) == 0 ? 19 : 17, 0, 0);
            }
            call("prove", pick(4), 0, 0);
        }

        void proveAny() {
            emptyDraft();
            int formulas = 1 + pick(4);
            for (int i = 0; i < formulas; i++) {
                int n = pick(2) == 0 ? plainFormula() : pick(oracle.formulas());
                call("put", n, 0, 0);
                if (pick(2) == 0) {
                    call("put", n ^ 1, 0, 0);
                }
            }
            call("prove", pick(4), 0, 0);
        }

        /** A call of a rule that fits the proofs that there are, if there is one. */
        void fittingCall() {
            List<int[]> fitting = new ArrayList<>();
            int slot = pick(4);
            int other = pick(4);
            List<Integer> first = rootOf(slot);
            List<Integer> second = rootOf(other);
            for (int n = 0; n < oracle.formulas(); n++) {
                int sign = oracle.about(n, 1);
                boolean a = first.contains(oracle.about(n, 2));
                boolean b = first.contains(oracle.about(n, 3));
                boolean otherB = second.contains(oracle.about(n, 3));
                if (first.contains(n) && second.contains(n ^ 1)) {
                    fitting.add(new int[] {17, n});
                }
                if (sign == 1 && a && b) {
                    fitting.add(new int[] {13, n});
                }
                if (sign == 2 && (a || b)) {
                    fitting.add(new int[] {14, n});
                }
                if (sign == 3 && a && otherB) {
                    fitting.add(new int[] {15, n});
                }
                if (sign == 0 && a && otherB) {
                    fitting.add(new int[] {16, n});
                }
            }
            if (fitting.isEmpty() || pick(10) == 0) {
                call(pick(3) == 0 ? "top" : "bottom", slot, 0, 0);
                return;
            }
            int[] chosen = fitting.get(pick(fitting.size()));
            if (chosen[0] == 13) {
                call("par", slot, chosen[1], 0);
            } else if (chosen[0] == 14) {
                call("plus", slot, chosen[1], pick(2));
            } else {
                call(NAMES[chosen[0]], slot, other, chosen[1]);
            }
        }

        List<Integer> rootOf(int slot) {
            List<Integer> line = new ArrayList<>();
            int size = oracle.nodes(slot) == 0 ? 0 : oracle.node(slot, 0, 2);
            for (int i = 0; i < size; i++) {
                line.add(oracle.conclusion(slot, 0, i));
            }
            return line;
        }

        void makePlain() {
            call("make", pick(4), plainFormula(), plainFormula());
        }

        void directedCall() {
            int kind = pick(20);
            if (kind < 2) {
                makePlain();
            } else if (kind < 4) {
                proveDuals();
            } else if (kind < 6) {
                proveAny();
            } else if (kind < 7) {
                call("axiom", pick(4), pick(3), 0);
            } else if (kind < 15) {
                fittingCall();
            } else if (kind < 18) {
                call("step", pick(4), 0, 0);
            } else if (kind < 19) {
                call("eliminate", pick(4), 0, 0);
            } else {
                typeWritten(anyWritten(4));
                call("read", 0, 0, 0);
            }
        }

        /** Many CUTS of large formulas, taken out step by step. */
        void cuttingCall() {
            if (oracle.formulas() < 50) {
                int compound = oracle.formulas() - 20;
                call("make", pick(4), compound > 0 && pick(3) > 0 ? 20 + pick(compound) : pick(4), plainFormula());
                return;
            }
            int kind = pick(20);
            if (kind < 1) {
                makePlain();
            } else if (kind < 6) {
                proveDuals();
            } else if (kind < 13) {
                cutIfThereIsOne(pick(4), pick(4));
            } else if (kind < 16) {
                fittingCall();
            } else if (kind < 19) {
                int slot = pick(4);
                call("step", slot, 0, 0);
                compareSlot(slot);
            } else if (pick(4) == 0) {
                call("eliminate", pick(4), 0, 0);
            }
        }

        void cutIfThereIsOne(int slot, int other) {
            List<Integer> second = rootOf(other);
            int largest = -1;
            for (int n : rootOf(slot)) {
                if (second.contains(n ^ 1) && (largest < 0 || oracle.about(n, 0) >= oracle.about(largest, 0))) {
                    largest = n;
                }
            }
            if (largest >= 0) {
                call("cut", slot, other, largest);
            }
        }

        void compareAll() {
            for (int n = 0; n < oracle.formulas(); n++) {
                for (int what = 0; what < 4; what++) {
                    call("about", n, what, 0);
                }
                for (int k = -1; k < 39; k++) {
                    call("written", n, k, 0);
                }
            }
            for (int i = -1; i < 9; i++) {
                call("draft", i, 0, 0);
            }
            for (int slot = 0; slot < 4; slot++) {
                compareSlot(slot);
            }
        }

        void compareSlot(int slot) {
            call("nodes", slot, 0, 0);
            call("cuts", slot, 0, 0);
            int unfit = new ProofChecker(program, slot).firstWrong();
            if (unfit >= 0) {
                wrong++;
                System.out.println("run " + number + ": node " + unfit + " of slot " + slot + " does not fit its rule");
            }
            for (int k = 0; k < oracle.nodes(slot); k++) {
                for (int what = 0; what < 4; what++) {
                    call("node", slot, k, what);
                }
                for (int i = -1; i <= oracle.node(slot, k, 2); i++) {
                    call("conclusion", slot, k, i);
                }
            }
        }
    }

    public static void main(String[] args) {
        int runs = args.length > 0 ? Integer.parseInt(args[0]) : 300;
        int wrong = 0;
        for (int number = 0; number < runs && wrong < 20; number++) {
            Run run = new Run(number);
            for (int i = 0; i < 250 && run.wrong < 5; i++) {
                if (number % 3 == 0 || run.pick(20) == 0) {
                    run.anyCall();
                } else if (number % 3 == 1) {
                    run.directedCall();
                } else {
                    run.cuttingCall();
                }
                if (i % 50 == 49) {
                    run.compareAll();
                }
            }
            wrong += run.wrong;
        }
        System.out.println(runs + " random runs, " + wrong + " wrong answers");
        System.exit(wrong == 0 ? 0 : 1);
    }
}
