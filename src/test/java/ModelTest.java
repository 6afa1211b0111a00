import java.util.ArrayList;
import java.util.List;
import java.util.Random;

/** Long runs of calls, the same ones each time, that the class and the model answer alike. */
public final class ModelTest {
    private static final int RUNS = 600;
    private static final int CALLS = 512;
    private static final String[] ASKS_OF_ONE = {
        "roofAt", "isFed", "feeder", "isClosed", "flow", "voltage", "voltageByWay", "isServed", "leftOut", "turn",
        "heat", "isBlown"};
    private static final String[] ASKS_OF_ALL = {
        "nodes", "lowest", "keepsLimits", "mostServed", "mostByAll", "minutes", "charged", "fedShare", "meanVoltage",
        "meanLeftOut", "isSound"};
    private static final int CALLS_AT_THE_END = ASKS_OF_ALL.length + 14 * ASKS_OF_ONE.length;
    private static final String[] CHANGES = {
        "setLoad", "setLoad", "setLoad", "setCharger", "setCharger", "setCharger", "setRoof", "capRoof", "shadeRoof",
        "setSun", "setBase", "minute", "minute", "minute", "minute", "pass", "pass", "replaceFuse", "replaceFuse",
        "replaceFuse", "addTie", "addNode"};

    private final Random random;
    private final Feederlight net = new Feederlight();
    private final Model model = new Model();
    private final List<String> told = new ArrayList<>();
    private final int callsInPlay;
    private final int mostLoad;
    private final int mostCharge;
    private final int leastRating;
    private final int mostRating;
    private final int chains;

    private ModelTest(int seed) {
        random = new Random(seed);
        callsInPlay = seed % 2 == 0 ? CALLS : CALLS - CALLS_AT_THE_END;
        mostLoad = new int[] {10, 40, 200}[random.nextInt(3)];
        mostCharge = new int[] {8, 64}[random.nextInt(2)];
        leastRating = new int[] {1, 20, 60}[random.nextInt(3)];
        mostRating = new int[] {80, 200, 400}[random.nextInt(3)];
        chains = random.nextInt(3);
    }

    public static void main(String[] args) {
        for (int run = 0; run < RUNS; run++) {
            int seed = run;
            Check.part("run " + run, () -> new ModelTest(seed).play());
        }
        Check.end();
    }

    /** 512 calls, as what comes after them is free; in every second run the last ones ask for everything. */
    private void play() {
        int nodes = random.nextInt(12);
        int ties = random.nextInt(5);
        for (int node = 1; node <= nodes; node++) {
            addNode(node);
        }
        for (int tie = 0; tie < ties; tie++) {
            both("addTie", random.nextInt(nodes + 1), random.nextInt(nodes + 1), 1 + random.nextInt(20));
        }
        while (told.size() < callsInPlay) {
            if (random.nextInt(3) == 0) {
                change();
            } else {
                ask();
            }
        }
        if (callsInPlay < CALLS) {
            askEverything();
        }
    }

    private void ask() {
        int at = random.nextInt(ASKS_OF_ONE.length + ASKS_OF_ALL.length);
        String call = at < ASKS_OF_ONE.length ? ASKS_OF_ONE[at] : ASKS_OF_ALL[at - ASKS_OF_ONE.length];
        both(call, anyNode(), around(0, 100), 0);
    }

    private void addNode(int nodes) {
        int parent = chains == 0 ? nodes - 1 : chains == 1 ? random.nextInt(nodes) : random.nextInt((nodes + 1) / 2);
        both("addNode", parent, 1 + random.nextInt(20), leastRating + random.nextInt(mostRating - leastRating + 1));
    }

    private void change() {
        String call = CHANGES[random.nextInt(CHANGES.length)];
        switch (call) {
            case "setLoad": both(call, anyNode(), around(0, mostLoad), 0); break;
            case "setCharger": both(call, anyNode(), around(0, mostCharge), 0); break;
            case "setRoof": case "capRoof": both(call, anyNode(), around(0, 200), 0); break;
            case "shadeRoof": both(call, anyNode(), around(0, random.nextInt(2) == 0 ? 20 : 100), 0); break;
            case "setSun": both(call, around(0, 100), 0, 0); break;
            case "setBase": both(call, around(random.nextInt(2) == 0 ? 2000 : 2250, 2600), 0, 0); break;
            case "minute": both(call, 0, 0, 0); break;
            case "pass": both(call, around(1, random.nextInt(8) == 0 ? 100 : 4), 0, 0); break;
            case "replaceFuse": both(call, anyNode(), 0, 0); break;
            case "addTie": both(call, anyNode(), anyNode(), around(1, 20)); break;
            default: both(call, anyNode(), around(1, 20), around(1, 400)); break;
        }
    }

    /** Mostly a node that there is; now and then one that there is not. */
    private int anyNode() {
        return random.nextInt(25) == 0 ? random.nextInt(16) - 2 : random.nextInt(model.nodes());
    }

    /** Mostly within the range; now and then at an end of it, or just outside. */
    private int around(int least, int most) {
        switch (random.nextInt(20)) {
            case 0: return least - 1;
            case 1: return most + 1;
            case 2: return least;
            case 3: return most;
            default: return least + random.nextInt(most - least + 1);
        }
    }

    private void both(String call, int a, int b, int c) {
        Object want = Check.answer(() -> model.call(call, a, b, c));
        Object got = Check.answer(() -> callNet(call, a, b, c));
        told.add(call + "(" + a + ", " + b + ", " + c + ")");
        if (!want.equals(got)) {
            Check.fail("call " + told.size() + ", " + told.get(told.size() - 1) + " answered " + got + ", due is "
                    + want);
        }
    }

    private void askEverything() {
        for (String call : ASKS_OF_ALL) {
            both(call, 0, 0, 0);
        }
        for (String call : ASKS_OF_ONE) {
            for (int node = -1; node <= 12; node++) {
                both(call, node, 100, 0);
            }
        }
    }

    private Object callNet(String name, int a, int b, int c) {
        switch (name) {
            case "addNode": return net.addNode(a, b, c);
            case "addTie": return net.addTie(a, b, c);
            case "setBase": return net.setBase(a);
            case "setLoad": return net.setLoad(a, b);
            case "setCharger": return net.setCharger(a, b);
            case "setSun": return net.setSun(a);
            case "setRoof": return net.setRoof(a, b);
            case "capRoof": return net.capRoof(a, b);
            case "shadeRoof": return net.shadeRoof(a, b);
            case "roofAt": return net.roofAt(a, b);
            case "minute": return net.minute();
            case "pass": return net.pass(a);
            case "replaceFuse": return net.replaceFuse(a);
            case "nodes": return net.nodes();
            case "isFed": return net.isFed(a);
            case "feeder": return net.feeder(a);
            case "isClosed": return net.isClosed(a);
            case "flow": return net.flow(a);
            case "voltage": return net.voltage(a);
            case "voltageByWay": return net.voltageByWay(a);
            case "lowest": return net.lowest();
            case "keepsLimits": return net.keepsLimits();
            case "isServed": return net.isServed(a);
            case "leftOut": return net.leftOut(a);
            case "turn": return net.turn(a);
            case "mostServed": return net.mostServed();
            case "mostByAll": return net.mostByAll();
            case "heat": return net.heat(a);
            case "isBlown": return net.isBlown(a);
            case "minutes": return net.minutes();
            case "charged": return net.charged();
            case "fedShare": return net.fedShare();
            case "meanVoltage": return net.meanVoltage();
            case "meanLeftOut": return net.meanLeftOut();
            case "isSound": return net.isSound();
            default: throw new UnsupportedOperationException(name);
        }
    }
}
