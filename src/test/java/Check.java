import java.util.function.Function;
import java.util.function.Supplier;

/** What the tests have in common: they compare answers with those that are due, and count the wrong ones. */
abstract class Check {
    static final Class<?> ARGUMENT = IllegalArgumentException.class;
    static final Class<?> STATE = IllegalStateException.class;
    static final Class<?> TOO_MUCH = UnsupportedOperationException.class;
    static final Class<?> INDEX = IndexOutOfBoundsException.class;
    static final int NONE = ProofWorkbench.NONE;
    static final int LEAST = Integer.MIN_VALUE;
    static final int GREATEST = Integer.MAX_VALUE;

    private static int wrong = 0;
    private static int parts = 0;
    private static String part = "";

    /** A call on an object: its answer, or the class of what it throws, is what counts. */
    interface Call extends Function<Bench, Object> {
    }

    /** Tests one sentence or promise of the document; another one is tested even if this throws. */
    static void test(String words, Runnable body) {
        part = words;
        parts++;
        try {
            body.run();
        } catch (RuntimeException e) {
            wrong++;
            System.out.println(part + ": the test was ended by " + e);
            e.printStackTrace(System.out);
        }
    }

    static void due(String what, Object got, Object want) {
        if (!got.equals(want)) {
            wrong++;
            System.out.println(part + ": " + what + " is " + got + ", due is " + want);
        }
    }

    /** What the call answers on a new object that is made so. */
    static void allowed(String what, Supplier<Bench> made, Call call, Object want) {
        due(what, made.get().answerOf(call), want);
    }

    /**
     * The call throws this, or answers false, and behind it the object answers a long row of calls as
     * one does that is made in the same way and gets no such call.
     */
    static void refused(String what, Supplier<Bench> made, Call call, Object want) {
        Bench asked = made.get();
        Bench other = made.get();
        // A text that is begun shows that the call leaves it alone as well.
        asked.typed("(h%");
        other.typed("(h%");
        due(what, asked.answerOf(call), want);
        due(what + ", what is answered behind it", asked.answersBehind(), other.answersBehind());
    }

    /** The same, for an object that goes on being used. */
    static void refused(Bench bench, String what, Object want, Call call) {
        String before = bench.all();
        due(what, bench.answerOf(call), want);
        due(what + ", what is there behind it", bench.all(), before);
    }

    static void end(String what) {
        System.out.println(parts + " " + what + ", " + wrong + " wrong answers");
        System.exit(wrong == 0 ? 0 : 1);
    }
}
