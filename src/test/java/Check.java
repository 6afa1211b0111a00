import java.util.List;
import java.util.NoSuchElementException;
import java.util.function.Supplier;

/** Counts the answers that are not the due ones, and tells each. */
final class Check {
    static final Class<IndexOutOfBoundsException> INDEX = IndexOutOfBoundsException.class;
    static final Class<IllegalArgumentException> ARGUMENT = IllegalArgumentException.class;
    static final Class<IllegalStateException> STATE = IllegalStateException.class;
    static final Class<NoSuchElementException> NONE = NoSuchElementException.class;
    static final Class<ArithmeticException> ARITHMETIC = ArithmeticException.class;

    private static final int MOST_TOLD = 40;
    private static int wrong = 0;
    private static int parts = 0;
    private static String part = "";

    private Check() {
    }

    static void part(String name, Runnable checks) {
        part = name;
        parts++;
        try {
            checks.run();
        } catch (RuntimeException e) {
            fail("threw " + e);
        }
    }

    static void due(String call, Object got, Object want) {
        if (!want.equals(got)) {
            fail(call + " answered " + got + ", due is " + want);
        }
    }

    static void due(String call, Supplier<?> got, Object want) {
        due(call, answer(got), want);
    }

    static void thrown(String call, Supplier<?> got, Class<? extends RuntimeException> want) {
        due(call, answer(got), want.getName());
    }

    /**
     * The call throws this very exception, and a few answers are the same after it. They are few because a net is
     * good for 512 calls only; that all answers stay the same is what the tests of the edges look at.
     */
    static void refused(Feederlight net, String call, Supplier<?> got, Class<? extends RuntimeException> want) {
        List<Object> before = someAnswers(net);
        thrown(call, got, want);
        List<Object> after = someAnswers(net);
        if (!before.equals(after)) {
            fail(call + " changed " + before + " to " + after);
        }
    }

    private static List<Object> someAnswers(Feederlight net) {
        return List.of(net.nodes(), net.minutes(), net.charged(), net.lowest(), net.keepsLimits(), net.fedShare(),
                net.meanVoltage());
    }

    /** The answer, or the name of the exception that was thrown. */
    static Object answer(Supplier<?> call) {
        try {
            return call.get();
        } catch (RuntimeException e) {
            return e.getClass().getName();
        }
    }

    static void fail(String text) {
        wrong++;
        if (wrong <= MOST_TOLD) {
            System.out.println(part + ": " + text);
        }
    }

    static void end() {
        System.out.println(parts + " tests, " + (wrong == 0 ? "all answers are as due" : wrong + " answers are not"));
        if (wrong != 0) {
            System.exit(1);
        }
    }
}
