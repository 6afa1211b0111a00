import java.util.ArrayList;
import java.util.List;
import java.util.function.Supplier;

/**
 * Tests of refused calls. Each is made on one of two like nets; then both are asked everything, live on for some
 * minutes, and are changed all over, and have to answer alike: so the refused call has changed nothing.
 */
final class Edge {
    interface Call {
        Object on(Feederlight net);
    }

    interface CallWith {
        Object on(Feederlight net, int value);
    }

    private Edge() {
    }

    /** A test of its own for each value just outside of the range, and for the ends of what an int can be. */
    static void outside(String test, int least, int most, CallWith call) {
        for (int value : new int[] {least - 1, most + 1, Integer.MIN_VALUE, Integer.MAX_VALUE}) {
            refused(test + " of " + value, Check.ARGUMENT, Nets::busy, net -> call.on(net, value));
        }
    }

    /** A test of its own for each number that is no node's: in a new net, in one with room for more, in a full one. */
    static void noSuchNode(String test, CallWith call) {
        refused(test + " of -1", Check.INDEX, Nets::busy, net -> call.on(net, -1));
        refused(test + " of 1, in a new net", Check.INDEX, Feederlight::new, net -> call.on(net, 1));
        refused(test + " of 6, with 6 nodes", Check.INDEX, Nets::busy, net -> call.on(net, 6));
        refused(test + " of 12, with 12 nodes", Check.INDEX, Nets::full, net -> call.on(net, 12));
        refused(test + " of the least int", Check.INDEX, Nets::busy, net -> call.on(net, Integer.MIN_VALUE));
        refused(test + " of the greatest int", Check.INDEX, Nets::full, net -> call.on(net, Integer.MAX_VALUE));
    }

    static void refused(String test, Class<? extends RuntimeException> want, Supplier<Feederlight> fresh, Call call) {
        Check.part(test + " is refused", () -> {
            Feederlight net = fresh.get();
            Feederlight twin = fresh.get();
            Check.thrown("the call", () -> call.on(net), want);
            alike(net, twin);
        });
    }

    /** Asks up to 450 calls of each of both nets. */
    static void alike(Feederlight net, Feederlight twin) {
        List<String> got = everythingFromNowOn(net);
        List<String> due = everythingFromNowOn(twin);
        for (int row = 0; row < Math.max(got.size(), due.size()); row++) {
            Check.due("then", row < got.size() ? got.get(row) : "no row", row < due.size() ? due.get(row) : "no row");
        }
    }

    private static List<String> everythingFromNowOn(Feederlight net) {
        List<String> rows = new ArrayList<>();
        askEverything(net, rows);
        rows.add("minute " + net.minute() + " pass " + net.pass(3));
        askEverything(net, rows);
        changeEverything(net, rows);
        return rows;
    }

    private static void askEverything(Feederlight net, List<String> rows) {
        int nodes = net.nodes();
        rows.add("nodes " + nodes + " lowest " + net.lowest() + " limits " + net.keepsLimits());
        rows.add("minutes " + net.minutes() + " charged " + net.charged() + " share " + net.fedShare());
        rows.add("voltage " + net.meanVoltage() + " left out " + Check.answer(net::meanLeftOut)
                + " sound " + net.isSound());
        rows.add("most " + Check.answer(net::mostServed) + " by all " + Check.answer(net::mostByAll));
        for (int tie = 0; tie < 4; tie++) {
            int number = tie;
            rows.add("tie " + tie + " closed " + Check.answer(() -> net.isClosed(number)));
        }
        for (int node = 0; node < nodes; node++) {
            askNode(net, node, rows);
        }
    }

    private static void askNode(Feederlight net, int node, List<String> rows) {
        rows.add("node " + node + " fed " + net.isFed(node) + " by " + Check.answer(() -> net.feeder(node))
                + " flow " + Check.answer(() -> net.flow(node)) + " voltage " + Check.answer(() -> net.voltage(node))
                + " by way " + Check.answer(() -> net.voltageByWay(node)) + " heat "
                + Check.answer(() -> net.heat(node)) + " blown " + Check.answer(() -> net.isBlown(node)));
        rows.add("node " + node + " served " + net.isServed(node) + " left out " + net.leftOut(node) + " at turn "
                + Check.answer(() -> net.turn(node)) + " roof " + net.roofAt(node, 37) + " " + net.roofAt(node, 100));
    }

    private static void changeEverything(Feederlight net, List<String> rows) {
        rows.add("base " + net.setBase(2222) + " sun " + net.setSun(55));
        for (int each = 0; each < net.nodes(); each++) {
            int node = each;
            rows.add("node " + node + " load " + net.setLoad(node, 1) + " charger " + net.setCharger(node, 2)
                    + " roof " + net.setRoof(node, 3) + " fuse " + Check.answer(() -> net.replaceFuse(node)));
        }
        rows.add("node " + Check.answer(() -> net.addNode(0, 1, 1)) + " tie "
                + Check.answer(() -> net.addTie(0, net.nodes() - 1, 1)));
    }
}
