import java.util.ArrayList;
import java.util.List;
import java.util.function.Supplier;

/** Counts the answers that are not the due ones, and tells each. */
final class Check {
    private static final int MOST_TOLD = 40;
    private static int wrong = 0;
    private static String part = "";

    private Check() {
    }

    static void part(String name, Runnable checks) {
        part = name;
        try {
            checks.run();
        } catch (RuntimeException e) {
            fail("threw " + e);
        }
    }

    static void due(String call, Object got, Object want) {
        if (!want.equals(got)) {
            fail(call + " answered " + got + ", due is " + want);
        }
    }

    static void due(String call, Supplier<?> got, Object want) {
        due(call, answer(got), want);
    }

    /** The call throws this very exception, and nothing that the net answers is another thing after it. */
    static void refused(Feederlight net, String call, Supplier<?> got, Class<? extends RuntimeException> want) {
        List<String> before = everyAnswer(net);
        due(call, answer(got), want.getName());
        List<String> after = everyAnswer(net);
        if (!before.equals(after)) {
            fail(call + " changed " + before + " to " + after);
        }
    }

    /** The answer, or the name of the exception that was thrown. */
    static Object answer(Supplier<?> call) {
        try {
            return call.get();
        } catch (RuntimeException e) {
            return e.getClass().getName();
        }
    }

    /** What all calls that change nothing answer now. */
    static List<String> everyAnswer(Feederlight net) {
        List<String> all = new ArrayList<>();
        int nodes = net.nodes();
        all.add("nodes " + nodes + " lowest " + net.lowest() + " limits " + net.keepsLimits());
        all.add("minutes " + net.minutes() + " charged " + net.charged() + " share " + net.fedShare());
        all.add("voltage " + net.meanVoltage() + " left out " + answer(net::meanLeftOut) + " sound " + net.isSound());
        all.add("most " + answer(net::mostServed) + " by all " + answer(net::mostByAll));
        for (int k = 0; k < 12; k++) {
            int node = k;
            all.add(node + ": " + answer(() -> net.isFed(node)) + " " + answer(() -> net.feeder(node))
                    + " " + answer(() -> net.flow(node)) + " " + answer(() -> net.voltage(node))
                    + " " + answer(() -> net.voltageByWay(node)) + " " + answer(() -> net.isServed(node))
                    + " " + answer(() -> net.leftOut(node)) + " " + answer(() -> net.turn(node))
                    + " " + answer(() -> net.heat(node)) + " " + answer(() -> net.isBlown(node))
                    + " " + answer(() -> net.isClosed(node)) + " " + answer(() -> net.roofAt(node, 37))
                    + " " + answer(() -> net.roofAt(node, 100)));
        }
        return all;
    }

    static void fail(String text) {
        wrong++;
        if (wrong <= MOST_TOLD) {
            System.out.println(part + ": " + text);
        }
    }

    static void end() {
        System.out.println(wrong == 0 ? "all answers are as due" : wrong + " answers are not as due");
        if (wrong != 0) {
            System.exit(1);
        }
    }
}
