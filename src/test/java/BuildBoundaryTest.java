/** The edges of promises 1 to 3: what there is at first, and what a new node or tie may be; each is a test. */
public final class BuildBoundaryTest {
    public static void main(String[] args) {
        startingNets();
        newNet();
        newNetOfNothing();
        refusedNodes();
        refusedNodesForSeveralReasons();
        parents();
        cables();
        roomForNodes();
        newNodes();
        refusedTies();
        refusedTiesForSeveralReasons();
        tiesThatAreAllowed();
        newTies();
        Check.end();
    }

    private static void startingNets() {
        Check.part("the busy net has something of everything", () -> {
            Feederlight net = Nets.busy();
            Check.due("nodes()", net.nodes(), 6);
            Check.due("isServed(0)", net.isServed(0), true);
            Check.due("isServed(3)", net.isServed(3), false);
            Check.due("leftOut(3) is more than 0", net.leftOut(3) > 0, true);
            Check.due("isBlown(5)", net.isBlown(5), true);
            Check.due("isClosed(0)", net.isClosed(0), true);
            Check.due("isClosed(1)", net.isClosed(1), false);
            Check.due("isBlown(4)", net.isBlown(4), false);
            Check.due("heat(4) is more than 0", net.heat(4) > 0, true);
            Check.due("setRoof(2, 0)", net.setRoof(2, 0), 3);
        });
        Check.part("the full net has no room", () -> {
            Feederlight net = Nets.full();
            Check.due("nodes()", net.nodes(), 12);
            Check.due("isClosed(3)", net.isClosed(3), false);
            Check.due("setRoof(1, 0)", net.setRoof(1, 0), 5);
        });
    }

    private static void newNet() {
        Check.part("promise 1, there is node 0 alone", () -> {
            Feederlight net = new Feederlight();
            Check.due("nodes()", net.nodes(), 1);
            Check.due("isFed(0)", net.isFed(0), true);
            Check.thrown("isFed(1)", () -> net.isFed(1), Check.INDEX);
        });
        Check.part("promise 1, the base is 2300", () -> {
            Check.due("voltage(0)", new Feederlight().voltage(0), 2300);
            Check.due("setBase(2400)", new Feederlight().setBase(2400), 2300);
        });
        Check.part("promise 1, the sun is 0",
                () -> Check.due("setSun(9)", new Feederlight().setSun(9), 0));
        Check.part("promise 1, the load of node 0 is 0",
                () -> Check.due("setLoad(0, 9)", new Feederlight().setLoad(0, 9), 0));
        Check.part("promise 1, the roof of node 0 has one layer",
                () -> Check.due("setRoof(0, 9)", new Feederlight().setRoof(0, 9), 1));
        Check.part("promise 1, the roof of node 0 tells 0 for each sun", () -> {
            Feederlight net = new Feederlight();
            for (int sun = 0; sun <= 100; sun++) {
                Check.due("roofAt(0, " + sun + ")", net.roofAt(0, sun), 0);
            }
        });
        Check.part("promise 1, the charger of node 0 has 0 amperes and was never left out", () -> {
            Feederlight net = new Feederlight();
            Check.thrown("turn(0)", () -> net.turn(0), Check.NONE);
            Check.due("isServed(0)", net.isServed(0), false);
            Check.due("setCharger(0, 9)", net.setCharger(0, 9), 0);
        });
        Check.part("promise 1, two nets have nothing in common", () -> {
            Feederlight net = new Feederlight();
            Feederlight other = new Feederlight();
            other.addNode(0, 1, 1);
            other.setBase(2400);
            other.setSun(9);
            other.setLoad(0, 9);
            other.setRoof(0, 9);
            other.setCharger(0, 9);
            other.minute();
            Edge.alike(net, new Feederlight());
            Check.due("nodes()", new Feederlight().nodes(), 1);
            Check.due("minutes()", new Feederlight().minutes(), 0);
        });
        Check.part("promise 1, the 512th call is answered as any other", () -> {
            Feederlight net = new Feederlight();
            for (int call = 1; call < 512; call++) {
                Check.due("setBase", net.setBase(2000 + call), call == 1 ? 2300 : 1999 + call);
            }
            Check.due("setBase, the 512th call", net.setBase(2600), 2511);
        });
    }

    private static void newNetOfNothing() {
        Check.part("promise 1, there is no tie",
                () -> Check.thrown("isClosed(0)", () -> new Feederlight().isClosed(0), Check.NONE));
        Check.part("promise 1, no minute has passed",
                () -> Check.due("minutes()", new Feederlight().minutes(), 0));
        Check.part("promise 1, nothing is charged",
                () -> Check.due("charged()", new Feederlight().charged(), 0L));
        Check.part("promise 1, node 0 is the lowest and all of what is fed", () -> {
            Feederlight net = new Feederlight();
            Check.due("lowest()", net.lowest(), 0);
            Check.due("fedShare()", net.fedShare(), 1.0f);
            Check.due("meanVoltage()", net.meanVoltage(), 2300.0);
        });
        Check.part("promise 1, the limits are kept, and no charger can be served", () -> {
            Feederlight net = new Feederlight();
            Check.due("keepsLimits()", net.keepsLimits(), true);
            Check.due("mostServed()", net.mostServed(), 0);
            Check.due("mostByAll()", net.mostByAll(), 0);
            Check.due("isSound()", net.isSound(), true);
        });
        Check.part("promise 1, there is no charger for a mean",
                () -> Check.thrown("meanLeftOut()", () -> new Feederlight().meanLeftOut(), Check.ARITHMETIC));
    }

    private static void refusedNodes() {
        Edge.noSuchNode("promise 2, a parent", (net, node) -> net.addNode(node, 1, 1));
        Edge.outside("promise 2, a resistance", 1, 20, (net, value) -> net.addNode(0, value, 1));
        Edge.outside("promise 2, a rating", 1, 400, (net, value) -> net.addNode(0, 1, value));
        Edge.refused("promise 2, a 13th node behind node 0", Check.STATE, Nets::full, net -> net.addNode(0, 1, 1));
        Edge.refused("promise 2, a 13th node behind node 11", Check.STATE, Nets::full,
                net -> net.addNode(11, 20, 400));
    }

    private static void refusedNodesForSeveralReasons() {
        Edge.refused("promise 2, no such parent and a resistance of 0", Check.INDEX, Nets::busy,
                net -> net.addNode(6, 0, 1));
        Edge.refused("promise 2, no such parent and a rating of 401", Check.INDEX, Nets::busy,
                net -> net.addNode(-1, 1, 401));
        Edge.refused("promise 2, a resistance of 21 and a rating of 0", Check.ARGUMENT, Nets::busy,
                net -> net.addNode(0, 21, 0));
        Edge.refused("promise 2, no such parent and 12 nodes", Check.INDEX, Nets::full, net -> net.addNode(12, 1, 1));
        Edge.refused("promise 2, a resistance of 0 and 12 nodes", Check.ARGUMENT, Nets::full,
                net -> net.addNode(0, 0, 1));
        Edge.refused("promise 2, a resistance of 21 and 12 nodes", Check.ARGUMENT, Nets::full,
                net -> net.addNode(0, 21, 1));
        Edge.refused("promise 2, a rating of 0 and 12 nodes", Check.ARGUMENT, Nets::full,
                net -> net.addNode(0, 1, 0));
        Edge.refused("promise 2, a rating of 401 and 12 nodes", Check.ARGUMENT, Nets::full,
                net -> net.addNode(0, 1, 401));
        Edge.refused("promise 2, no such parent, both out of range, and 12 nodes", Check.INDEX, Nets::full,
                net -> net.addNode(-1, 0, 401));
    }

    private static void parents() {
        Check.part("promise 2, node 0 can be the parent of all", () -> {
            Feederlight net = new Feederlight();
            for (int node = 1; node < 12; node++) {
                Check.due("addNode", net.addNode(0, 1, 1), node);
                Check.due("feeder", net.feeder(node), 0);
            }
        });
        Check.part("promise 2, the newest node can be the parent of the next one", () -> {
            Feederlight net = new Feederlight();
            for (int node = 1; node < 12; node++) {
                Check.due("addNode", net.addNode(node - 1, 1, 1), node);
                Check.due("feeder", net.feeder(node), node - 1);
            }
        });
        Check.part("promise 2, a parent that is cut off is allowed", () -> {
            Feederlight net = Nets.cutOff();
            Check.due("addNode(3, 1, 1)", net.addNode(3, 1, 1), 4);
            Check.due("isFed(4)", net.isFed(4), false);
        });
        Check.part("promise 2, a parent that is fed over a tie is allowed", () -> {
            Feederlight net = Nets.busy();
            Check.due("isClosed(0)", net.isClosed(0), true);
            Check.due("addNode(5, 1, 1)", net.addNode(5, 1, 1), 6);
            Check.due("feeder(6)", net.feeder(6), 5);
        });
    }

    private static void cables() {
        Check.part("promise 2, a resistance of 1 is allowed", () -> cableOf(1, 2290));
        Check.part("promise 2, a resistance of 20 is allowed", () -> cableOf(20, 2100));
        Check.part("promise 2, a rating of 1 is allowed", () -> {
            Feederlight net = new Feederlight();
            Check.due("addNode(0, 1, 1)", net.addNode(0, 1, 1), 1);
            net.setLoad(1, 1);
            net.minute();
            Check.due("heat(1) by 1 ampere", net.heat(1), 0);
            net.setLoad(1, 2);
            net.minute();
            Check.due("heat(1) by 2 amperes", net.heat(1), 1);
        });
        Check.part("promise 2, a rating of 400 is allowed", () -> {
            Feederlight net = new Feederlight();
            Check.due("addNode(0, 1, 400)", net.addNode(0, 1, 400), 1);
            net.addNode(1, 1, 400);
            net.addNode(1, 1, 400);
            net.setLoad(1, 200);
            net.setLoad(2, 200);
            net.minute();
            Check.due("heat(1) by 400 amperes", net.heat(1), 0);
            net.setLoad(3, 1);
            net.minute();
            Check.due("heat(1) by 401 amperes", net.heat(1), 1);
        });
    }

    private static void cableOf(int resistance, int voltage) {
        Feederlight net = new Feederlight();
        Check.due("addNode", net.addNode(0, resistance, 100), 1);
        net.setLoad(1, 100);
        Check.due("voltage(1), 100 amperes", net.voltage(1), voltage);
        Check.due("voltageByWay(1), 100 amperes", net.voltageByWay(1), voltage);
    }

    private static void roomForNodes() {
        Check.part("promise 2, the first node that is added is node 1",
                () -> Check.due("addNode(0, 1, 1)", new Feederlight().addNode(0, 1, 1), 1));
        Check.part("promise 2, a 12th node is allowed", () -> {
            Feederlight net = Nets.star(10);
            Check.due("addNode(10, 1, 1)", net.addNode(10, 1, 1), 11);
            Check.due("nodes()", net.nodes(), 12);
            Check.due("isFed(11)", net.isFed(11), true);
        });
    }

    private static void newNodes() {
        Check.part("promise 2, the fuse of a new node is whole and cold", () -> {
            Feederlight net = Nets.busy();
            net.addNode(0, 1, 1);
            Check.due("heat(6)", net.heat(6), 0);
            Check.due("isBlown(6)", net.isBlown(6), false);
        });
        Check.part("promise 2, load, charger and roof of a new node are 0", () -> {
            Feederlight net = Nets.busy();
            net.addNode(0, 1, 1);
            Check.due("flow(6)", net.flow(6), 0);
            Check.due("setLoad(6, 1)", net.setLoad(6, 1), 0);
            Check.due("setCharger(6, 0)", net.setCharger(6, 0), 0);
            Check.due("isServed(6)", net.isServed(6), false);
            Check.due("roofAt(6, 100)", net.roofAt(6, 100), 0);
            Check.due("setRoof(6, 1)", net.setRoof(6, 1), 1);
        });
        Check.part("promise 2, a new node leaves the other ones as they are", () -> {
            Feederlight net = Nets.busy();
            int voltage = net.voltage(5);
            int turn = net.turn(0);
            net.addNode(5, 20, 1);
            Check.due("voltage(5)", net.voltage(5), voltage);
            Check.due("isServed(0)", net.isServed(0), true);
            Check.due("turn(0)", net.turn(0), turn);
            Check.due("isClosed(0)", net.isClosed(0), true);
        });
    }

    private static void refusedTies() {
        Edge.noSuchNode("promise 3, a node", (net, node) -> net.addTie(node, 0, 1));
        Edge.noSuchNode("promise 3, another node", (net, node) -> net.addTie(0, node, 1));
        Edge.outside("promise 3, a resistance", 1, 20, (net, value) -> net.addTie(0, 5, value));
        Edge.refused("promise 3, a tie from node 0 to itself in a new net", Check.ARGUMENT, Feederlight::new,
                net -> net.addTie(0, 0, 1));
        Edge.refused("promise 3, a tie from the newest node to itself", Check.ARGUMENT, Nets::busy,
                net -> net.addTie(5, 5, 20));
        Edge.refused("promise 3, a fifth tie", Check.STATE, Nets::full, net -> net.addTie(0, 1, 1));
        Edge.refused("promise 3, a fifth tie, the other way round", Check.STATE, Nets::full,
                net -> net.addTie(11, 0, 20));
    }

    private static void refusedTiesForSeveralReasons() {
        Edge.refused("promise 3, no such node, twice the same", Check.INDEX, Nets::busy, net -> net.addTie(6, 6, 1));
        Edge.refused("promise 3, no such node and a resistance of 0", Check.INDEX, Nets::busy,
                net -> net.addTie(6, 0, 0));
        Edge.refused("promise 3, no such other node and a resistance of 21", Check.INDEX, Nets::busy,
                net -> net.addTie(0, -1, 21));
        Edge.refused("promise 3, twice the same node and a resistance of 0", Check.ARGUMENT, Nets::busy,
                net -> net.addTie(2, 2, 0));
        Edge.refused("promise 3, no such node and 4 ties", Check.INDEX, Nets::full, net -> net.addTie(12, 0, 1));
        Edge.refused("promise 3, no such other node and 4 ties", Check.INDEX, Nets::full,
                net -> net.addTie(0, 12, 1));
        Edge.refused("promise 3, twice the same node and 4 ties", Check.ARGUMENT, Nets::full,
                net -> net.addTie(7, 7, 1));
        Edge.refused("promise 3, a resistance of 0 and 4 ties", Check.ARGUMENT, Nets::full,
                net -> net.addTie(0, 1, 0));
        Edge.refused("promise 3, a resistance of 21 and 4 ties", Check.ARGUMENT, Nets::full,
                net -> net.addTie(0, 1, 21));
        Edge.refused("promise 3, no such node, twice the same, out of range, and 4 ties", Check.INDEX, Nets::full,
                net -> net.addTie(-1, -1, 0));
    }

    private static void tiesThatAreAllowed() {
        Check.part("promise 3, a resistance of 1 is allowed", () -> tieOf(1, 2190));
        Check.part("promise 3, a resistance of 20 is allowed", () -> tieOf(20, 2000));
        Check.part("promise 3, a tie from node 0 to the newest node is allowed",
                () -> Check.due("addTie(0, 5, 1)", Nets.busy().addTie(0, 5, 1), 2));
        Check.part("promise 3, a tie from the newest node to node 0 is allowed",
                () -> Check.due("addTie(5, 0, 1)", Nets.busy().addTie(5, 0, 1), 2));
        Check.part("promise 3, a second tie between the same nodes is allowed",
                () -> Check.due("addTie(3, 5, 6)", Nets.busy().addTie(3, 5, 6), 2));
        Check.part("promise 3, the first tie is tie 0",
                () -> Check.due("addTie(0, 1, 1)", Nets.star(1).addTie(0, 1, 1), 0));
        Check.part("promise 3, a fourth tie is allowed", () -> {
            Feederlight net = Nets.busy();
            Check.due("addTie(0, 3, 1)", net.addTie(0, 3, 1), 2);
            Check.due("addTie(1, 2, 1)", net.addTie(1, 2, 1), 3);
            Check.due("isClosed(3)", net.isClosed(3), false);
        });
    }

    /** 100 amperes at node 1, which is cut off, over the cable of node 2 and a tie. */
    private static void tieOf(int resistance, int voltage) {
        Feederlight net = Nets.star(2);
        Nets.blow(net, 1);
        Check.due("addTie", net.addTie(1, 2, resistance), 0);
        net.setLoad(1, 100);
        Check.due("voltage(1)", net.voltage(1), voltage);
        Check.due("voltageByWay(1)", net.voltageByWay(1), voltage);
    }

    private static void newTies() {
        Check.part("promise 3, a tie between nodes that are fed is open",
                () -> newTie(0, 1, false, false));
        Check.part("promise 3, a tie between nodes that are cut off is open",
                () -> newTie(2, 3, false, false));
        Check.part("promise 3, a tie from a node that is fed to one that is not is closed",
                () -> newTie(0, 2, true, true));
        Check.part("promise 3, a tie from a node that is not fed to one that is is closed",
                () -> newTie(3, 1, true, true));
        Check.part("promise 3, a tie that can feed lets an older one feed on", () -> {
            Feederlight net = Nets.line(3);
            net.setLoad(2, 200);
            net.setLoad(3, 200);
            Check.due("pass(1)", net.pass(1), 3);
            Check.due("addTie(1, 2, 1)", net.addTie(1, 2, 1), 0);
            Check.due("isClosed(0), both cut off", net.isClosed(0), false);
            Check.due("addTie(2, 0, 1)", net.addTie(2, 0, 1), 1);
            Check.due("isClosed(1)", net.isClosed(1), true);
            Check.due("isClosed(0)", net.isClosed(0), true);
            Check.due("feeder(1)", net.feeder(1), 2);
            Check.due("isFed(3)", net.isFed(3), false);
        });
    }

    private static void newTie(int node, int other, boolean closed, boolean fed) {
        Feederlight net = Nets.cutOff();
        Check.due("addTie", net.addTie(node, other, 1), 0);
        Check.due("isClosed(0)", net.isClosed(0), closed);
        Check.due("isFed(2)", net.isFed(2), fed);
        Check.due("isFed(3)", net.isFed(3), fed);
    }
}
