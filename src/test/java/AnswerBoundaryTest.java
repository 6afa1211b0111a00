/** The edges of promises 15 to 25, 29, 30 and 33 to 35: what is told of nodes, ties and the net; each is a test. */
public final class AnswerBoundaryTest {
    public static void main(String[] args) {
        nodesThatAreFed();
        feeders();
        refusedTies();
        closedTies();
        flows();
        refusedVoltages();
        voltages();
        lowestNodes();
        limitsOfVoltages();
        limitsOfFuses();
        served();
        leftOut();
        heats();
        shares();
        means();
        meansOfChargers();
        Check.end();
    }

    private static void nodesThatAreFed() {
        Edge.noSuchNode("promise 16, whether a node is fed", Feederlight::isFed);
        Check.part("promise 15, the most nodes are 12, those that are cut off too", () -> {
            Feederlight net = Nets.star(11);
            Check.due("nodes()", net.nodes(), 12);
            Nets.blow(net, 11);
            Check.due("nodes()", net.nodes(), 12);
        });
        Check.part("promise 15, a tie is no node", () -> {
            Feederlight net = Nets.star(1);
            net.addTie(0, 1, 1);
            Check.due("nodes()", net.nodes(), 2);
        });
        Check.part("promise 16, node 0 is fed when all other nodes are cut off", () -> {
            Feederlight net = Nets.line(1);
            Nets.blow(net, 1);
            Check.due("isFed(0)", net.isFed(0), true);
            Check.due("isFed(1)", net.isFed(1), false);
        });
        Check.part("promise 16, a node is cut off by a blown fuse on its way, though its own is whole", () -> {
            Feederlight net = Nets.cutOff();
            Check.due("isBlown(3)", net.isBlown(3), false);
            Check.due("isFed(3)", net.isFed(3), false);
            Check.due("isFed(1)", net.isFed(1), true);
        });
        Check.part("promise 16, the last of 12 nodes in a line is fed",
                () -> Check.due("isFed(11)", Nets.line(11).isFed(11), true));
        Check.part("promise 16, a line of 12 nodes is fed from its far end", () -> {
            Feederlight net = lineFedFromItsEnd();
            for (int node = 0; node < 12; node++) {
                Check.due("isFed(" + node + ")", net.isFed(node), true);
            }
        });
    }

    /** 12 nodes in one line; the fuse of node 1 is blown, and a tie feeds node 11 from node 0. */
    private static Feederlight lineFedFromItsEnd() {
        Feederlight net = Nets.line(11);
        net.addTie(11, 0, 10);
        Nets.blow(net, 1);
        return net;
    }

    private static void feeders() {
        Edge.noSuchNode("promise 17, a feeder of node", Feederlight::feeder);
        Edge.refused("promise 17, a feeder of node 0", Check.NONE, Nets::busy, net -> net.feeder(0));
        Edge.refused("promise 17, a feeder of node 0 in a new net", Check.NONE, Feederlight::new,
                net -> net.feeder(0));
        Edge.refused("promise 17, a feeder of a node behind a blown fuse", Check.NONE, Nets::cutOff,
                net -> net.feeder(2));
        Edge.refused("promise 17, a feeder of a node whose parent is cut off", Check.NONE, Nets::cutOff,
                net -> net.feeder(3));
        Check.part("promise 17, a node that was cut off and is fed again has a feeder", () -> {
            Feederlight net = Nets.cutOff();
            net.replaceFuse(2);
            Check.due("feeder(2)", net.feeder(2), 1);
            Check.due("feeder(3)", net.feeder(3), 2);
        });
        Check.part("promise 17, a parent is fed by its child all the way up", () -> {
            Feederlight net = lineFedFromItsEnd();
            Check.due("feeder(11)", net.feeder(11), 0);
            for (int node = 1; node < 11; node++) {
                Check.due("feeder(" + node + ")", net.feeder(node), node + 1);
            }
        });
        Check.part("promise 17, a node with a whole cable is fed over it, though there is a tie", () -> {
            Feederlight net = Nets.line(2);
            net.addTie(0, 2, 1);
            Check.due("feeder(2)", net.feeder(2), 1);
        });
    }

    private static void refusedTies() {
        for (int tie : new int[] {-1, 2, Integer.MIN_VALUE, Integer.MAX_VALUE}) {
            Edge.refused("promise 18, with 2 ties, tie " + tie, Check.NONE, Nets::busy, net -> net.isClosed(tie));
        }
        Edge.refused("promise 18, tie 0 in a new net", Check.NONE, Feederlight::new, net -> net.isClosed(0));
        Edge.refused("promise 18, tie 1 with 1 tie", Check.NONE, () -> {
            Feederlight net = Nets.star(2);
            net.addTie(1, 2, 1);
            return net;
        }, net -> net.isClosed(1));
        Edge.refused("promise 18, tie 4 with 4 ties", Check.NONE, Nets::full, net -> net.isClosed(4));
    }

    private static void closedTies() {
        Check.part("promise 18, the first and the last of 4 ties are there", () -> {
            Feederlight net = Nets.full();
            Check.due("isClosed(0)", net.isClosed(0), false);
            Check.due("isClosed(3)", net.isClosed(3), false);
        });
        Check.part("promise 18, of ties that could feed the lowest one is closed", () -> {
            Feederlight net = Nets.cutOff();
            net.addNode(0, 1, 400);
            net.addTie(2, 3, 1);
            net.addTie(3, 4, 1);
            net.addTie(2, 1, 1);
            Check.due("isClosed(0), 2 and 3 are cut off both", net.isClosed(0), false);
            Check.due("isClosed(1)", net.isClosed(1), true);
            Check.due("isClosed(2)", net.isClosed(2), false);
            Check.due("feeder(3)", net.feeder(3), 4);
            Check.due("feeder(2), over the cable", net.feeder(2), 3);
        });
        Check.part("promise 18, cables feed all they can before the next tie is closed", () -> {
            Feederlight net = Nets.line(4);
            net.setLoad(3, 200);
            Check.due("pass(1)", net.pass(1), 3);
            net.addTie(0, 3, 1);
            net.addTie(0, 4, 1);
            net.addTie(0, 2, 1);
            Check.due("isClosed(0)", net.isClosed(0), true);
            Check.due("isClosed(1), as 3 feeds 4", net.isClosed(1), false);
            Check.due("isClosed(2), as 3 cannot feed 2", net.isClosed(2), true);
        });
        Check.part("promise 18, after a tie is closed, the lowest one that can feed comes next", () -> {
            Feederlight net = Nets.star(3);
            net.addTie(1, 2, 1);
            net.addTie(3, 1, 1);
            net.addTie(0, 2, 1);
            for (int node = 1; node <= 3; node++) {
                net.setLoad(node, 200);
            }
            Check.due("pass(1)", net.pass(1), 3);
            Check.due("isClosed(2), the only one at a node that is fed", net.isClosed(2), true);
            Check.due("isClosed(0)", net.isClosed(0), true);
            Check.due("isClosed(1)", net.isClosed(1), true);
            Check.due("feeder(3)", net.feeder(3), 1);
        });
    }

    private static void flows() {
        Edge.noSuchNode("promise 19, a flow of node", Feederlight::flow);
        Edge.refused("promise 19, a flow of node 0", Check.NONE, Nets::busy, net -> net.flow(0));
        Edge.refused("promise 19, a flow of node 0 in a new net", Check.NONE, Feederlight::new, net -> net.flow(0));
        Edge.refused("promise 19, a flow of a node that is cut off", Check.NONE, Nets::cutOff, net -> net.flow(3));
        Check.part("promise 19, a flow of 0", () -> {
            Feederlight net = Nets.line(1);
            Check.due("flow(1), nothing there", net.flow(1), 0);
            net.setLoad(1, 200);
            net.setRoof(1, 200);
            net.setSun(100);
            Check.due("flow(1), as much back", net.flow(1), 0);
        });
        Check.part("promise 19, a flow of less than 0", () -> {
            Feederlight net = Nets.line(1);
            net.setLoad(1, 199);
            net.setRoof(1, 200);
            net.setSun(100);
            Check.due("flow(1)", net.flow(1), -1);
        });
        Check.part("promise 19, the greatest flow there can be", () -> Check.due("flow(1)", most().flow(1), 2200));
        Check.part("promise 19, the least flow there can be", () -> Check.due("flow(1)", least().flow(1), -2200));
        Check.part("promise 19, what is cut off and what node 0 has do not count", () -> {
            Feederlight net = Nets.cutOff();
            net.setLoad(0, 200);
            net.setLoad(1, 1);
            net.setLoad(2, 200);
            net.setLoad(3, 200);
            Check.due("flow(1)", net.flow(1), 1);
        });
        Check.part("promise 19, the parent counts for the child that feeds it", () -> {
            Feederlight net = lineFedFromItsEnd();
            net.setLoad(1, 5);
            net.setLoad(11, 7);
            Check.due("flow(1)", net.flow(1), 5);
            Check.due("flow(10)", net.flow(10), 5);
            Check.due("flow(11)", net.flow(11), 12);
        });
    }

    /** 12 nodes in one line with the greatest resistances and loads. */
    private static Feederlight most() {
        Feederlight net = longest();
        for (int node = 1; node < 12; node++) {
            net.setLoad(node, 200);
        }
        return net;
    }

    /** 12 nodes in one line with the greatest resistances and roofs. */
    private static Feederlight least() {
        Feederlight net = longest();
        for (int node = 1; node < 12; node++) {
            net.setRoof(node, 200);
        }
        net.setSun(100);
        return net;
    }

    private static Feederlight longest() {
        Feederlight net = new Feederlight();
        for (int node = 1; node < 12; node++) {
            net.addNode(node - 1, 20, 400);
        }
        return net;
    }

    private interface VoltageOf {
        int tell(Feederlight net, int node);
    }

    private static void refusedVoltages() {
        Edge.noSuchNode("promise 20, a voltage of node", Feederlight::voltage);
        Edge.noSuchNode("promise 21, a voltage by way of node", Feederlight::voltageByWay);
        for (int node = 2; node <= 3; node++) {
            int cutOff = node;
            Edge.refused("promise 20, a voltage of node " + node + ", which is cut off", Check.NONE, Nets::cutOff,
                    net -> net.voltage(cutOff));
            Edge.refused("promise 21, a voltage by way of node " + node + ", which is cut off", Check.NONE,
                    Nets::cutOff, net -> net.voltageByWay(cutOff));
        }
    }

    private static void voltages() {
        voltagesOf("promise 20", Feederlight::voltage);
        voltagesOf("promise 21", Feederlight::voltageByWay);
    }

    private static void voltagesOf(String promise, VoltageOf of) {
        Check.part(promise + ", the voltage of node 0 is the base, whatever it has", () -> {
            Feederlight net = Nets.busy();
            net.setLoad(0, 200);
            Check.due("of 0", of.tell(net, 0), 2310);
        });
        Check.part(promise + ", a drop of 0.9 is rounded to 0", () -> dropOf(of, 9, 2300));
        Check.part(promise + ", a drop of 1.0 is 1", () -> dropOf(of, 10, 2299));
        Check.part(promise + ", a drop of 1.9 is rounded to 1", () -> dropOf(of, 19, 2299));
        Check.part(promise + ", a drop of 0 is none", () -> dropOf(of, 0, 2300));
        Check.part(promise + ", a rise of 0.9 is rounded to 0", () -> dropOf(of, -9, 2300));
        Check.part(promise + ", a rise of 1.0 is 1", () -> dropOf(of, -10, 2301));
        Check.part(promise + ", a rise of 1.9 is rounded to 1", () -> dropOf(of, -19, 2301));
        Check.part(promise + ", each drop on the way is rounded by itself", () -> {
            Feederlight net = new Feederlight();
            net.addNode(0, 1, 100);
            net.addNode(1, 1, 100);
            net.setLoad(2, 9);
            Check.due("of 2, twice 0.9", of.tell(net, 2), 2300);
        });
        Check.part(promise + ", the least voltage there can be", () -> {
            Feederlight net = most();
            net.setBase(2000);
            Check.due("of 11", of.tell(net, 11), 2000 - 400 * 66);
        });
        Check.part(promise + ", the greatest voltage there can be", () -> {
            Feederlight net = least();
            net.setBase(2600);
            Check.due("of 11", of.tell(net, 11), 2600 + 400 * 66);
        });
        Check.part(promise + ", over a tie the drop is of the tie's resistance, not of the cable's", () -> {
            Feederlight net = Nets.cutOff();
            net.addTie(3, 0, 3);
            net.setLoad(2, 50);
            Check.due("of 3, 50 over 3", of.tell(net, 3), 2285);
            Check.due("of 2, 50 over 10 more", of.tell(net, 2), 2235);
        });
    }

    /** Over a resistance of 1. */
    private static void dropOf(VoltageOf of, int flow, int voltage) {
        Feederlight net = new Feederlight();
        net.addNode(0, 1, 100);
        net.setLoad(1, 100 + flow);
        net.setRoof(1, 100);
        net.setSun(100);
        Check.due("flow(1)", net.flow(1), flow);
        Check.due("of 1", of.tell(net, 1), voltage);
    }

    private static void lowestNodes() {
        Check.part("promise 22, of all the same voltages node 0 is the lowest",
                () -> Check.due("lowest()", Nets.star(11).lowest(), 0));
        Check.part("promise 22, one less is the lowest", () -> lowestOf(0, 1, 2));
        Check.part("promise 22, of two with the same voltage the lower number is the lowest", () -> lowestOf(1, 1, 1));
        Check.part("promise 22, of two the one with one less is the lowest", () -> lowestOf(1, 2, 2));
        Check.part("promise 22, a drop of less than 1 leaves the same voltage", () -> {
            Feederlight net = new Feederlight();
            net.addNode(0, 1, 100);
            net.setLoad(1, 9);
            Check.due("lowest()", net.lowest(), 0);
            net.setLoad(1, 10);
            Check.due("lowest()", net.lowest(), 1);
        });
        Check.part("promise 22, node 0 is the lowest when all others are pushed up", () -> {
            Feederlight net = Nets.star(2);
            net.setRoof(1, 1);
            net.setRoof(2, 1);
            net.setSun(100);
            Check.due("lowest()", net.lowest(), 0);
        });
        Check.part("promise 22, what is cut off is never the lowest", () -> {
            Feederlight net = Nets.cutOff();
            net.setLoad(2, 200);
            net.setLoad(3, 200);
            Check.due("lowest()", net.lowest(), 0);
            net.setLoad(1, 1);
            Check.due("lowest()", net.lowest(), 1);
        });
        Check.part("promise 22, the last of 12 nodes can be the lowest",
                () -> Check.due("lowest()", most().lowest(), 11));
    }

    private static void lowestOf(int first, int second, int lowest) {
        Feederlight net = Nets.star(2);
        net.setLoad(1, first);
        net.setLoad(2, second);
        Check.due("lowest()", net.lowest(), lowest);
    }

    private static void limitsOfVoltages() {
        Check.part("promise 23, a base of 2070 keeps the limits", () -> baseOf(2070, true));
        Check.part("promise 23, a base of 2069 does not", () -> baseOf(2069, false));
        Check.part("promise 23, a base of 2600 keeps the limits", () -> baseOf(2600, true));
        Check.part("promise 23, a node at 2070 keeps the limits", () -> nodeWith(2100, 30, true));
        Check.part("promise 23, a node at 2069 does not", () -> nodeWith(2100, 31, false));
        Check.part("promise 23, a node that is pushed over any voltage keeps the limits", () -> {
            Feederlight net = longest();
            net.setBase(2600);
            net.setRoof(11, 200);
            net.setSun(100);
            Check.due("voltage(11)", net.voltage(11), 7000);
            Check.due("keepsLimits()", net.keepsLimits(), true);
        });
        Check.part("promise 23, a node that is pushed to 2070 keeps the limits at a base that does not", () -> {
            Feederlight net = Nets.line(1);
            net.setBase(2069);
            net.setRoof(1, 1);
            net.setSun(100);
            Check.due("voltage(1)", net.voltage(1), 2070);
            Check.due("keepsLimits(), node 0 counts", net.keepsLimits(), false);
        });
        Check.part("promise 23, what is cut off has no voltage to keep", () -> {
            Feederlight net = Nets.cutOff();
            net.setLoad(3, 200);
            net.setBase(2070);
            Check.due("keepsLimits()", net.keepsLimits(), true);
        });
    }

    private static void baseOf(int base, boolean kept) {
        Feederlight net = new Feederlight();
        net.setBase(base);
        Check.due("keepsLimits()", net.keepsLimits(), kept);
    }

    private static void nodeWith(int base, int load, boolean kept) {
        Feederlight net = Nets.line(1);
        net.setBase(base);
        net.setLoad(1, load);
        Check.due("keepsLimits()", net.keepsLimits(), kept);
    }

    private static void limitsOfFuses() {
        Check.part("promise 23, a cable that carries the rating keeps the limits", () -> nodeWith(2300, 100, true));
        Check.part("promise 23, a cable that carries one above the rating does not", () -> nodeWith(2300, 101, false));
        Check.part("promise 23, a cable that carries the rating back keeps the limits", () -> roofOf(100, true));
        Check.part("promise 23, a cable that carries one above the rating back does not", () -> roofOf(101, false));
        Check.part("promise 23, a tie carries any current within the limits", () -> {
            Feederlight net = Nets.cutOff();
            net.addTie(2, 0, 1);
            net.setLoad(2, 200);
            net.setLoad(3, 100);
            Check.due("flow(2)", net.flow(2), 300);
            Check.due("keepsLimits()", net.keepsLimits(), true);
            net.setLoad(3, 101);
            Check.due("keepsLimits(), 101 over the cable behind it", net.keepsLimits(), false);
        });
        Check.part("promise 23, a cable that feeds the parent carries the parent's flow, by its own rating", () -> {
            Feederlight net = Nets.fedByItsChild();
            net.setLoad(1, 50);
            net.setLoad(2, 200);
            Check.due("keepsLimits(), 50", net.keepsLimits(), true);
            net.setLoad(1, 51);
            Check.due("keepsLimits(), 51", net.keepsLimits(), false);
        });
        Check.part("promise 23, a charger that is not served carries nothing", () -> {
            Feederlight net = Nets.line(1);
            net.setLoad(1, 100);
            net.setCharger(1, 1);
            Check.due("keepsLimits()", net.keepsLimits(), true);
            net.setLoad(1, 99);
            net.minute();
            net.setLoad(1, 100);
            Check.due("keepsLimits(), served", net.keepsLimits(), false);
        });
    }

    private static void roofOf(int amperes, boolean kept) {
        Feederlight net = Nets.line(1);
        net.setRoof(1, amperes);
        net.setSun(100);
        Check.due("keepsLimits()", net.keepsLimits(), kept);
    }

    private static void served() {
        Edge.noSuchNode("promise 24, whether served of node", Feederlight::isServed);
        Check.part("promise 24, a charger is not served before the first minute", () -> {
            Feederlight net = Nets.line(1);
            net.setCharger(1, 1);
            Check.due("isServed(1)", net.isServed(1), false);
            net.minute();
            Check.due("isServed(1)", net.isServed(1), true);
        });
        Check.part("promise 24, a charger of 0 amperes is not served after a minute", () -> {
            Feederlight net = Nets.line(1);
            net.minute();
            Check.due("isServed(0)", net.isServed(0), false);
            Check.due("isServed(1)", net.isServed(1), false);
        });
        Check.part("promise 24, only the last minute counts", () -> {
            Feederlight net = Nets.line(1);
            net.setCharger(1, 64);
            net.minute();
            net.setLoad(1, 37);
            Check.due("isServed(1), until the next minute", net.isServed(1), true);
            net.minute();
            Check.due("isServed(1)", net.isServed(1), false);
            net.setLoad(1, 36);
            Check.due("isServed(1), until the next minute", net.isServed(1), false);
        });
        Check.part("promise 24, a charger at a node that is cut off is not served", () -> {
            Feederlight net = Nets.cutOff();
            net.setCharger(3, 1);
            net.minute();
            Check.due("isServed(3)", net.isServed(3), false);
            net.replaceFuse(2);
            Check.due("isServed(3), fed, but not in the last minute", net.isServed(3), false);
        });
        Check.part("promise 24, all of 12 chargers are served", () -> {
            Feederlight net = Nets.star(11);
            for (int node = 0; node < 12; node++) {
                net.setCharger(node, 1);
            }
            net.minute();
            for (int node = 0; node < 12; node++) {
                Check.due("isServed(" + node + ")", net.isServed(node), true);
            }
        });
    }

    private static void leftOut() {
        Edge.noSuchNode("promise 25, how often left out of node", Feederlight::leftOut);
        Check.part("promise 25, a charger that was never set was never left out", () -> {
            Feederlight net = Nets.line(1);
            net.setBase(2000);
            net.pass(100);
            Check.due("leftOut(0)", net.leftOut(0), 0);
            Check.due("leftOut(1)", net.leftOut(1), 0);
        });
        Check.part("promise 25, each minute counts once", () -> {
            Feederlight net = Nets.line(1);
            net.setBase(2000);
            net.setCharger(1, 1);
            Check.due("leftOut(1)", net.leftOut(1), 0);
            net.minute();
            Check.due("leftOut(1)", net.leftOut(1), 1);
            net.pass(100);
            Check.due("leftOut(1)", net.leftOut(1), 101);
        });
        Check.part("promise 25, the number stays in minutes in which the charger is served or is 0", () -> {
            Feederlight net = Nets.line(1);
            net.setBase(2000);
            net.setCharger(1, 1);
            net.pass(2);
            net.setBase(2300);
            net.pass(2);
            Check.due("leftOut(1), served", net.leftOut(1), 2);
            net.setCharger(1, 0);
            net.setBase(2000);
            net.pass(2);
            Check.due("leftOut(1), 0", net.leftOut(1), 2);
        });
    }

    private static void heats() {
        Edge.noSuchNode("promise 29, a heat at node", Feederlight::heat);
        Edge.refused("promise 29, a heat of node 0", Check.NONE, Nets::busy, net -> net.heat(0));
        Edge.refused("promise 29, a heat of node 0 in a new net", Check.NONE, Feederlight::new, net -> net.heat(0));
        Edge.noSuchNode("promise 30, whether blown of node", Feederlight::isBlown);
        Edge.refused("promise 30, whether the fuse of node 0 is blown", Check.NONE, Nets::busy,
                net -> net.isBlown(0));
        Edge.refused("promise 30, whether the fuse of node 0 is blown in a new net", Check.NONE, Feederlight::new,
                net -> net.isBlown(0));
        Check.part("promise 29, the heat of a fuse at a node that is cut off", () -> {
            Feederlight net = Nets.cutOff();
            Check.due("heat(2)", net.heat(2), 100);
            Check.due("heat(3)", net.heat(3), 0);
        });
        Check.part("promise 29, the greatest heat there can be", () -> {
            Feederlight net = new Feederlight();
            net.addNode(0, 1, 1);
            for (int node = 2; node < 12; node++) {
                net.addNode(1, 1, 400);
            }
            for (int node = 1; node < 12; node++) {
                net.setLoad(node, 200);
            }
            net.minute();
            Check.due("heat(1)", net.heat(1), 2199);
        });
        Check.part("promise 30, a fuse that never carried anything is whole", () -> {
            Feederlight net = Nets.star(11);
            net.pass(100);
            Check.due("isBlown(1)", net.isBlown(1), false);
            Check.due("isBlown(11)", net.isBlown(11), false);
        });
        Check.part("promise 30, at a heat of 99 it is whole, at 100 it is blown", () -> {
            Feederlight net = Nets.line(1);
            net.setLoad(1, 101);
            net.pass(99);
            Check.due("isBlown(1) at 99", net.isBlown(1), false);
            net.pass(1);
            Check.due("isBlown(1) at 100", net.isBlown(1), true);
        });
    }

    private static void shares() {
        Check.part("promise 33, all 12 nodes are fed", () -> Check.due("fedShare()", Nets.star(11).fedShare(), 1.0f));
        Check.part("promise 33, 1 of 12 nodes is fed", () -> {
            Feederlight net = Nets.line(11);
            Nets.blow(net, 1);
            Check.due("fedShare()", net.fedShare(), 1.0f / 12.0f);
        });
        Check.part("promise 33, 11 of 12 nodes are fed", () -> {
            Feederlight net = Nets.star(11);
            Nets.blow(net, 11);
            Check.due("fedShare()", net.fedShare(), 11.0f / 12.0f);
        });
        Check.part("promise 33, a node that a tie feeds is fed", () -> {
            Feederlight net = Nets.cutOff();
            Check.due("fedShare()", net.fedShare(), 0.5f);
            net.addTie(0, 3, 1);
            Check.due("fedShare()", net.fedShare(), 1.0f);
        });
    }

    private static void means() {
        Check.part("promise 34, the mean of node 0 alone is the base", () -> {
            Feederlight net = new Feederlight();
            net.setBase(2000);
            Check.due("meanVoltage()", net.meanVoltage(), 2000.0);
        });
        Check.part("promise 34, the mean is not rounded", () -> {
            Feederlight net = Nets.star(2);
            net.setLoad(1, 1);
            Check.due("meanVoltage()", net.meanVoltage(), 6899.0 / 3.0);
        });
        Check.part("promise 34, the mean is of those that are fed", () -> {
            Feederlight net = Nets.cutOff();
            net.setLoad(1, 1);
            net.setLoad(3, 200);
            Check.due("meanVoltage()", net.meanVoltage(), 2299.5);
        });
        Check.part("promise 34, the mean of less than 0", () -> {
            Feederlight net = most();
            net.setBase(2000);
            int sum = 0;
            for (int node = 0; node < 12; node++) {
                sum += net.voltage(node);
            }
            Check.due("meanVoltage()", net.meanVoltage(), (double) sum / 12.0);
            Check.due("less than 0", sum < 0, true);
        });
    }

    private static void meansOfChargers() {
        Edge.refused("promise 35, a mean without a charger", Check.ARITHMETIC, Nets::cutOff, Feederlight::meanLeftOut);
        Edge.refused("promise 35, a mean in a new net", Check.ARITHMETIC, Feederlight::new, Feederlight::meanLeftOut);
        Edge.refused("promise 35, a mean of chargers of 0 amperes that were left out", Check.ARITHMETIC, () -> {
            Feederlight net = Nets.cutOff();
            net.setCharger(3, 1);
            net.pass(2);
            net.setCharger(3, 0);
            return net;
        }, Feederlight::meanLeftOut);
        Check.part("promise 35, a mean of one charger of 1 ampere that was never left out is 0", () -> {
            Feederlight net = Nets.line(1);
            net.setCharger(1, 1);
            Check.due("meanLeftOut()", net.meanLeftOut(), 0.0);
        });
        Check.part("promise 35, chargers of 0 amperes that were left out do not count", () -> {
            Feederlight net = Nets.line(2);
            net.setBase(2000);
            net.setCharger(1, 1);
            net.pass(5);
            net.setCharger(2, 1);
            net.pass(2);
            Check.due("meanLeftOut()", net.meanLeftOut(), 4.5);
            net.setCharger(1, 0);
            Check.due("meanLeftOut()", net.meanLeftOut(), 2.0);
        });
        Check.part("promise 35, the mean is not rounded, and is of all 12 chargers, of those cut off too", () -> {
            Feederlight net = Nets.star(11);
            Nets.blow(net, 11);
            for (int node = 0; node < 12; node++) {
                net.setCharger(node, 1);
            }
            net.minute();
            Check.due("meanLeftOut()", net.meanLeftOut(), 1.0 / 12.0);
        });
    }
}
