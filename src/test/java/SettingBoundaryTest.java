/** The edges of promises 4 to 11: base, loads, chargers, the sun, roofs and their layers; each is a test. */
public final class SettingBoundaryTest {
    public static void main(String[] args) {
        bases();
        loads();
        chargers();
        chargersThatWereServed();
        suns();
        roofs();
        caps();
        shades();
        roomForLayers();
        curves();
        Check.end();
    }

    private static void bases() {
        Edge.outside("promise 4, a base", 2000, 2600, Feederlight::setBase);
        Check.part("promise 4, a base of 2000 is allowed", () -> baseOf(2000));
        Check.part("promise 4, a base of 2600 is allowed", () -> baseOf(2600));
        Check.part("promise 4, the base before the first call is 2300",
                () -> Check.due("setBase(2000)", new Feederlight().setBase(2000), 2300));
        Check.part("promise 4, the same base can be set again", () -> {
            Feederlight net = Nets.busy();
            Check.due("setBase(2310)", net.setBase(2310), 2310);
            Check.due("voltage(0)", net.voltage(0), 2310);
        });
    }

    private static void baseOf(int base) {
        Feederlight net = Nets.line(1);
        net.setLoad(1, 10);
        net.setBase(base);
        Check.due("voltage(0)", net.voltage(0), base);
        Check.due("voltage(1)", net.voltage(1), base - 10);
        Check.due("setBase(2300)", net.setBase(2300), base);
    }

    private static void loads() {
        Edge.noSuchNode("promise 5, a load at node", (net, node) -> net.setLoad(node, 1));
        Edge.outside("promise 5, a load", 0, 200, (net, value) -> net.setLoad(2, value));
        Edge.refused("promise 5, no such node and a load of 201", Check.INDEX, Nets::busy,
                net -> net.setLoad(6, 201));
        Edge.refused("promise 5, no such node and a load of -1", Check.INDEX, Nets::busy,
                net -> net.setLoad(-1, -1));
        Check.part("promise 5, a load of 0 is allowed", () -> loadOf(0));
        Check.part("promise 5, a load of 200 is allowed", () -> loadOf(200));
        Check.part("promise 5, node 0 can have a load", () -> {
            Feederlight net = Nets.busy();
            Check.due("setLoad(0, 200)", net.setLoad(0, 200), 0);
            Check.due("setLoad(0, 0)", net.setLoad(0, 0), 200);
        });
        Check.part("promise 5, the newest node can have a load",
                () -> Check.due("setLoad(5, 0)", Nets.busy().setLoad(5, 0), 10));
        Check.part("promise 5, a node that is cut off can have a load", () -> {
            Feederlight net = Nets.cutOff();
            Check.due("setLoad(3, 200)", net.setLoad(3, 200), 0);
            Check.due("setLoad(3, 0)", net.setLoad(3, 0), 200);
        });
    }

    private static void loadOf(int amperes) {
        Feederlight net = Nets.line(2);
        net.setLoad(2, 17);
        Check.due("setLoad(2)", net.setLoad(2, amperes), 17);
        Check.due("flow(1)", net.flow(1), amperes);
        Check.due("setLoad(2, 1)", net.setLoad(2, 1), amperes);
    }

    private static void chargers() {
        Edge.noSuchNode("promise 6, a charger at node", (net, node) -> net.setCharger(node, 1));
        Edge.outside("promise 6, a current for a charger that is served", 0, 64,
                (net, value) -> net.setCharger(0, value));
        Edge.refused("promise 6, no such node and a current of 65", Check.INDEX, Nets::busy,
                net -> net.setCharger(6, 65));
        Edge.refused("promise 6, no such node and a current of -1", Check.INDEX, Nets::busy,
                net -> net.setCharger(-1, -1));
        Check.part("promise 6, a current of 0 is allowed and takes no turn", () -> {
            Feederlight net = Nets.line(1);
            net.setCharger(1, 9);
            Check.due("setCharger(1, 0)", net.setCharger(1, 0), 0);
            Check.thrown("turn(0)", () -> net.turn(0), Check.NONE);
        });
        Check.part("promise 6, a current of 1 is allowed and takes a turn", () -> chargerOf(1));
        Check.part("promise 6, a current of 64 is allowed", () -> chargerOf(64));
        Check.part("promise 6, node 0 can have a charger", () -> {
            Feederlight net = new Feederlight();
            Check.due("setCharger(0, 64)", net.setCharger(0, 64), 0);
            Check.due("minute()", net.minute(), 1);
            Check.due("charged()", net.charged(), 64L);
        });
        Check.part("promise 6, the newest node can have a charger", () -> {
            Feederlight net = Nets.line(3);
            Check.due("setCharger(3, 64)", net.setCharger(3, 64), 0);
            Check.due("turn(0)", net.turn(0), 3);
        });
    }

    private static void chargerOf(int amperes) {
        Feederlight net = Nets.line(2);
        Check.due("setCharger(2)", net.setCharger(2, amperes), 0);
        Check.due("turn(0)", net.turn(0), 2);
        Check.due("flow(1) before a minute", net.flow(1), 0);
        net.minute();
        Check.due("flow(1) after it", net.flow(1), amperes);
    }

    private static void chargersThatWereServed() {
        Check.part("promise 6, a charger that is set to what it has is not served", () -> {
            Feederlight net = Nets.line(1);
            net.setCharger(1, 64);
            net.minute();
            Check.due("setCharger(1, 64)", net.setCharger(1, 64), 0);
            Check.due("isServed(1)", net.isServed(1), false);
            Check.due("flow(1)", net.flow(1), 0);
        });
        Check.part("promise 6, a charger that is set is not served while the other ones still are", () -> {
            Feederlight net = Nets.star(3);
            for (int node = 0; node <= 3; node++) {
                net.setCharger(node, 10);
            }
            net.minute();
            net.setCharger(2, 11);
            for (int node = 0; node <= 3; node++) {
                Check.due("isServed(" + node + ")", net.isServed(node), node != 2);
            }
        });
        Check.part("promise 6, it is told how often the charger has been left out, and stays so", () -> {
            Feederlight net = Nets.line(1);
            net.setCharger(1, 10);
            net.setLoad(1, 100);
            net.pass(3);
            Check.due("setCharger(1, 0)", net.setCharger(1, 0), 3);
            net.pass(2);
            Check.due("setCharger(1, 1)", net.setCharger(1, 1), 3);
            net.minute();
            Check.due("setCharger(1, 64)", net.setCharger(1, 64), 4);
            Check.due("leftOut(1)", net.leftOut(1), 4);
        });
    }

    private static void suns() {
        Edge.outside("promise 7, a sun", 0, 100, Feederlight::setSun);
        Check.part("promise 7, a sun of 0 is allowed", () -> sunOf(0, 0));
        Check.part("promise 7, a sun of 100 is allowed", () -> sunOf(100, -50));
        Check.part("promise 7, the sun before the first call is 0",
                () -> Check.due("setSun(100)", new Feederlight().setSun(100), 0));
        Check.part("promise 7, the same sun can be set again",
                () -> Check.due("setSun(60)", Nets.busy().setSun(60), 60));
    }

    private static void sunOf(int sun, int flow) {
        Feederlight net = Nets.line(1);
        net.setRoof(1, 50);
        net.setSun(33);
        Check.due("setSun", net.setSun(sun), 33);
        Check.due("flow(1)", net.flow(1), flow);
        Check.due("setSun(1)", net.setSun(1), sun);
    }

    private static void roofs() {
        Edge.noSuchNode("promise 8, a roof at node", (net, node) -> net.setRoof(node, 1));
        Edge.outside("promise 8, a curve", 0, 200, (net, value) -> net.setRoof(2, value));
        Edge.refused("promise 8, no such node and a curve of 201", Check.INDEX, Nets::busy,
                net -> net.setRoof(6, 201));
        Edge.refused("promise 8, no such node and a curve of -1", Check.INDEX, Nets::busy,
                net -> net.setRoof(-1, -1));
        Check.part("promise 8, 0 amperes are allowed", () -> roofOf(0, new int[] {0, 0, 0, 0, 0}));
        Check.part("promise 8, 200 amperes are allowed", () -> roofOf(200, new int[] {0, 2, 100, 198, 200}));
        Check.part("promise 8, 1 ampere is rounded down below a sun of 100",
                () -> roofOf(1, new int[] {0, 0, 0, 0, 1}));
        Check.part("promise 8, 199 amperes are rounded down",
                () -> roofOf(199, new int[] {0, 1, 99, 197, 199}));
        Check.part("promise 8, a roof that was never set had 1 layer", () -> {
            Feederlight net = Nets.line(2);
            Check.due("setRoof(0, 1)", net.setRoof(0, 1), 1);
            Check.due("setRoof(2, 1)", net.setRoof(2, 1), 1);
        });
        Check.part("promise 8, a roof with the most layers had 5, and has 1 after it", () -> {
            Feederlight net = Nets.full();
            Check.due("setRoof(1, 200)", net.setRoof(1, 200), 5);
            Check.due("roofAt(1, 100)", net.roofAt(1, 100), 200);
            Check.due("setRoof(1, 0)", net.setRoof(1, 0), 1);
        });
    }

    /** What the curve tells for a sun of 0, 1, 50, 99 and 100. */
    private static void roofOf(int amperes, int[] currents) {
        Feederlight net = Nets.line(1);
        Check.due("setRoof(1)", net.setRoof(1, amperes), 1);
        int[] suns = {0, 1, 50, 99, 100};
        for (int at = 0; at < suns.length; at++) {
            Check.due("roofAt(1, " + suns[at] + ")", net.roofAt(1, suns[at]), currents[at]);
        }
    }

    private static void caps() {
        Edge.noSuchNode("promise 9, a cap at node", (net, node) -> net.capRoof(node, 1));
        Edge.outside("promise 9, a cap", 0, 200, (net, value) -> net.capRoof(2, value));
        Edge.refused("promise 9, no such node and a cap of 201", Check.INDEX, Nets::busy, net -> net.capRoof(6, 201));
        Edge.refused("promise 9, no such node and a cap of -1", Check.INDEX, Nets::busy, net -> net.capRoof(-1, -1));
        Check.part("promise 9, a cap of 0 is allowed and tells 0", () -> capOf(0, 0));
        Check.part("promise 9, a cap of one less than the answer below tells the cap", () -> capOf(99, 99));
        Check.part("promise 9, a cap of just the answer below tells it", () -> capOf(100, 100));
        Check.part("promise 9, a cap of one more than the answer below tells that answer", () -> capOf(101, 100));
        Check.part("promise 9, a cap of 200 is allowed", () -> capOf(200, 100));
        Check.part("promise 9, a cap on a roof that was never set", () -> {
            Feederlight net = new Feederlight();
            Check.due("capRoof(0, 200)", net.capRoof(0, 200), 2);
            Check.due("roofAt(0, 100)", net.roofAt(0, 100), 0);
        });
        Check.part("promise 9, of two caps the lesser one tells, whichever is above", () -> {
            Feederlight net = Nets.line(2);
            for (int node = 1; node <= 2; node++) {
                net.setRoof(node, 200);
                net.capRoof(node, node == 1 ? 30 : 40);
                Check.due("capRoof", net.capRoof(node, node == 1 ? 40 : 30), 3);
                Check.due("roofAt", net.roofAt(node, 100), 30);
            }
        });
    }

    private static void capOf(int most, int current) {
        Feederlight net = Nets.line(1);
        net.setRoof(1, 100);
        Check.due("capRoof", net.capRoof(1, most), 2);
        Check.due("roofAt(1, 100)", net.roofAt(1, 100), current);
    }

    private static void shades() {
        Edge.noSuchNode("promise 10, a shade at node", (net, node) -> net.shadeRoof(node, 1));
        Edge.outside("promise 10, a shade", 0, 100, (net, value) -> net.shadeRoof(2, value));
        Edge.refused("promise 10, no such node and a shade of 101", Check.INDEX, Nets::busy,
                net -> net.shadeRoof(6, 101));
        Edge.refused("promise 10, no such node and a shade of -1", Check.INDEX, Nets::busy,
                net -> net.shadeRoof(-1, -1));
        Check.part("promise 10, a shade of 0 is allowed and changes no answer", () -> shadeOf(0));
        Check.part("promise 10, a shade of 1 takes 1 from the sun", () -> shadeOf(1));
        Check.part("promise 10, a shade of 50 tells 0 below it", () -> shadeOf(50));
        Check.part("promise 10, a shade of 99 leaves a sun of 1", () -> shadeOf(99));
        Check.part("promise 10, a shade of 100 is allowed and leaves a sun of 0", () -> shadeOf(100));
        Check.part("promise 10, a shade under a shade takes from what is left", () -> {
            Feederlight net = Nets.line(1);
            net.setRoof(1, 200);
            net.shadeRoof(1, 30);
            Check.due("shadeRoof(1, 40)", net.shadeRoof(1, 40), 3);
            Check.due("roofAt(1, 39)", net.roofAt(1, 39), 0);
            Check.due("roofAt(1, 70)", net.roofAt(1, 70), 0);
            Check.due("roofAt(1, 71)", net.roofAt(1, 71), 2);
            Check.due("roofAt(1, 100)", net.roofAt(1, 100), 60);
        });
        Check.part("promise 10, a shade above a cap and one under it tell alike", () -> {
            Feederlight net = Nets.line(2);
            for (int node = 1; node <= 2; node++) {
                net.setRoof(node, 100);
                int layers = node == 1 ? net.capRoof(1, 20) : net.shadeRoof(2, 50);
                Check.due("the layers", layers, 2);
                Check.due("the layers", node == 1 ? net.shadeRoof(1, 50) : net.capRoof(2, 20), 3);
                Check.due("roofAt, 69", net.roofAt(node, 69), 19);
                Check.due("roofAt, 70", net.roofAt(node, 70), 20);
                Check.due("roofAt, 71", net.roofAt(node, 71), 20);
                Check.due("roofAt, 49", net.roofAt(node, 49), 0);
            }
        });
    }

    /** A shade over 200 amperes, which are 2 for each sun that is left. */
    private static void shadeOf(int from) {
        Feederlight net = Nets.line(1);
        net.setRoof(1, 200);
        Check.due("shadeRoof", net.shadeRoof(1, from), 2);
        for (int sun = 0; sun <= 100; sun++) {
            Check.due("roofAt(1, " + sun + ")", net.roofAt(1, sun), sun < from ? 0 : 2 * (sun - from));
        }
    }

    private static void roomForLayers() {
        Edge.refused("promise 9, a cap as a fifth layer", Check.STATE, Nets::full, net -> net.capRoof(1, 10));
        Edge.refused("promise 9, a cap of 0 as a fifth layer", Check.STATE, Nets::full, net -> net.capRoof(1, 0));
        Edge.refused("promise 9, a cap of 201 as a fifth layer", Check.ARGUMENT, Nets::full,
                net -> net.capRoof(1, 201));
        Edge.refused("promise 9, a cap of -1 as a fifth layer", Check.ARGUMENT, Nets::full,
                net -> net.capRoof(1, -1));
        Edge.refused("promise 10, a shade as a fifth layer", Check.STATE, Nets::full, net -> net.shadeRoof(1, 10));
        Edge.refused("promise 10, a shade of 0 as a fifth layer", Check.STATE, Nets::full,
                net -> net.shadeRoof(1, 0));
        Edge.refused("promise 10, a shade of 101 as a fifth layer", Check.ARGUMENT, Nets::full,
                net -> net.shadeRoof(1, 101));
        Edge.refused("promise 10, a shade of -1 as a fifth layer", Check.ARGUMENT, Nets::full,
                net -> net.shadeRoof(1, -1));
        Check.part("promise 9, four caps are allowed", () -> {
            Feederlight net = Nets.line(1);
            net.setRoof(1, 200);
            for (int layers = 2; layers <= 5; layers++) {
                Check.due("capRoof", net.capRoof(1, 200 - layers), layers);
                Check.due("roofAt(1, 100)", net.roofAt(1, 100), 200 - layers);
            }
        });
        Check.part("promise 10, four shades are allowed", () -> {
            Feederlight net = Nets.line(1);
            net.setRoof(1, 200);
            for (int layers = 2; layers <= 5; layers++) {
                Check.due("shadeRoof", net.shadeRoof(1, 10), layers);
                Check.due("roofAt(1, 100)", net.roofAt(1, 100), 220 - 20 * layers);
            }
        });
        Check.part("promise 9, the other roofs have room when one has none",
                () -> Check.due("capRoof(2, 1)", Nets.full().capRoof(2, 1), 2));
        Check.part("promise 10, there is room again after setRoof", () -> {
            Feederlight net = Nets.full();
            net.setRoof(1, 100);
            for (int layers = 2; layers <= 5; layers++) {
                Check.due("shadeRoof(1, 1)", net.shadeRoof(1, 1), layers);
            }
        });
    }

    private static void curves() {
        Edge.noSuchNode("promise 11, a curve of node", (net, node) -> net.roofAt(node, 1));
        Edge.outside("promise 11, a sun", 0, 100, (net, value) -> net.roofAt(2, value));
        Edge.refused("promise 11, no such node and a sun of 101", Check.INDEX, Nets::busy, net -> net.roofAt(6, 101));
        Edge.refused("promise 11, no such node and a sun of -1", Check.INDEX, Nets::busy, net -> net.roofAt(-1, -1));
        Check.part("promise 11, a sun of 0 is allowed",
                () -> Check.due("roofAt(2, 0)", Nets.busy().roofAt(2, 0), 0));
        Check.part("promise 11, a sun of 100 is allowed",
                () -> Check.due("roofAt(2, 100)", Nets.busy().roofAt(2, 100), 25));
        Check.part("promise 11, node 0 and the newest node have a curve", () -> {
            Feederlight net = Nets.line(2);
            net.setRoof(0, 200);
            net.setRoof(2, 100);
            Check.due("roofAt(0, 100)", net.roofAt(0, 100), 200);
            Check.due("roofAt(1, 100)", net.roofAt(1, 100), 0);
            Check.due("roofAt(2, 100)", net.roofAt(2, 100), 100);
        });
        Check.part("promise 11, what is cut off has a curve", () -> {
            Feederlight net = Nets.cutOff();
            net.setRoof(3, 70);
            Check.due("roofAt(3, 100)", net.roofAt(3, 100), 70);
        });
        Check.part("promise 11, the present sun is left as it is", () -> {
            Feederlight net = Nets.busy();
            Check.due("roofAt(2, 11)", net.roofAt(2, 11), 0);
            Check.due("roofAt(2, 12)", net.roofAt(2, 12), 1);
            Check.due("setSun(0)", net.setSun(0), 60);
            Check.due("roofAt(2, 60)", net.roofAt(2, 60), 25);
        });
    }
}
