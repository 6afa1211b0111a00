/** The edges of promises 12 to 14, 31 and 32: what minutes do to chargers and to fuses; each is a test. */
public final class MinuteBoundaryTest {
    public static void main(String[] args) {
        chargersOfNoCurrent();
        limitsOfFuses();
        limitsOfVoltages();
        turns();
        notServed();
        heats();
        heatsOfWhatIsServed();
        heatsThatStay();
        blownFuses();
        passes();
        passesThatBlow();
        refusedFuses();
        replacedFuses();
        sums();
        Check.end();
    }

    private static void chargersOfNoCurrent() {
        Check.part("promise 12, with no charger none is served, and the minute passes", () -> {
            Feederlight net = new Feederlight();
            Check.due("minute()", net.minute(), 0);
            Check.due("minutes()", net.minutes(), 1);
        });
        Check.part("promise 12, a charger of 0 amperes is not served, and not left out either", () -> {
            Feederlight net = Nets.star(1);
            net.setCharger(0, 0);
            net.setCharger(1, 0);
            Check.due("minute()", net.minute(), 0);
            Check.due("leftOut(1)", net.leftOut(1), 0);
            Check.due("isServed(1)", net.isServed(1), false);
            net.setBase(2000);
            Check.due("minute(), out of the limits", net.minute(), 0);
            Check.due("leftOut(1)", net.leftOut(1), 0);
        });
        Check.part("promise 12, a charger of 1 ampere is served", () -> {
            Feederlight net = Nets.star(1);
            net.setCharger(1, 1);
            Check.due("minute()", net.minute(), 1);
            Check.due("isServed(1)", net.isServed(1), true);
        });
        Check.part("promise 12, a charger of 1 ampere is left out", () -> {
            Feederlight net = Nets.star(1);
            net.setCharger(1, 1);
            net.setLoad(1, 100);
            Check.due("minute()", net.minute(), 0);
            Check.due("leftOut(1)", net.leftOut(1), 1);
        });
        Check.part("promise 12, 12 chargers are served at once", () -> {
            Feederlight net = Nets.star(11);
            for (int node = 0; node < 12; node++) {
                net.setCharger(node, 64);
            }
            Check.due("minute()", net.minute(), 12);
            Check.due("charged()", net.charged(), 768L);
        });
    }

    private static void limitsOfFuses() {
        Check.part("promise 12, a charger is served when a cable then carries just the rating",
                () -> fuseOf(36, 0, 1));
        Check.part("promise 12, a charger is left out when a cable would carry one above the rating",
                () -> fuseOf(37, 0, 0));
        Check.part("promise 12, a charger is served when just the rating still flows back",
                () -> fuseOf(0, 164, 1));
        Check.part("promise 12, a charger is left out when one above the rating still flows back",
                () -> fuseOf(0, 165, 0));
        Check.part("promise 12, the fuse of a cable on the way counts too", () -> {
            Feederlight net = Nets.line(3);
            net.setLoad(1, 37);
            net.setCharger(3, 64);
            Check.due("minute(), 101 over cable 1", net.minute(), 0);
            net.setLoad(1, 36);
            Check.due("minute(), 100 over cable 1", net.minute(), 1);
        });
        Check.part("promise 12, a charger at node 0 goes over no cable", () -> {
            Feederlight net = Nets.line(1);
            net.setLoad(1, 100);
            net.setCharger(0, 64);
            Check.due("minute()", net.minute(), 1);
        });
        Check.part("promise 12, a charger at node 0 is left out too when a cable elsewhere carries too much", () -> {
            Feederlight net = Nets.line(1);
            net.setLoad(1, 101);
            net.setCharger(0, 1);
            Check.due("minute()", net.minute(), 0);
            Check.due("leftOut(0)", net.leftOut(0), 1);
        });
    }

    /** A charger of 64 at a node with a load and a roof, behind a rating of 100. */
    private static void fuseOf(int load, int roof, int served) {
        Feederlight net = Nets.line(1);
        net.setLoad(1, load);
        net.setRoof(1, roof);
        net.setSun(100);
        net.setCharger(1, 64);
        Check.due("minute()", net.minute(), served);
        Check.due("leftOut(1)", net.leftOut(1), 1 - served);
    }

    private static void limitsOfVoltages() {
        Check.part("promise 12, a charger is served at 2070", () -> voltageOf(1, 2134, 1));
        Check.part("promise 12, a charger is left out at 2069", () -> voltageOf(1, 2133, 0));
        Check.part("promise 12, a charger at node 0 is served at a base of 2070", () -> voltageOf(0, 2070, 1));
        Check.part("promise 12, a charger at node 0 is left out at a base of 2069", () -> voltageOf(0, 2069, 0));
        Check.part("promise 12, a charger is left out when another node would be at 2069", () -> {
            Feederlight net = Nets.line(2);
            net.setLoad(2, 10);
            net.setCharger(1, 20);
            net.setBase(2109);
            Check.due("minute(), 30 and 10", net.minute(), 0);
            net.setBase(2110);
            Check.due("minute(), 30 and 10", net.minute(), 1);
        });
        Check.part("promise 12, the voltage of what is cut off does not count", () -> {
            Feederlight net = Nets.cutOff();
            net.setLoad(2, 200);
            net.setLoad(3, 200);
            net.setCharger(1, 64);
            net.setBase(2134);
            Check.due("minute()", net.minute(), 1);
        });
    }

    /** A charger of 64 behind a resistance of 10, which are 64 tenths of a volt, or at node 0. */
    private static void voltageOf(int node, int base, int served) {
        Feederlight net = Nets.line(1);
        net.setBase(base);
        net.setCharger(node, 64);
        Check.due("minute()", net.minute(), served);
        Check.due("leftOut", net.leftOut(node), 1 - served);
    }

    private static void turns() {
        Check.part("promise 12, of several that were left out as often the lowest node comes first", () -> {
            Feederlight net = Nets.line(3);
            net.setCharger(3, 60);
            net.setCharger(2, 60);
            net.setCharger(1, 60);
            Check.due("minute()", net.minute(), 1);
            Check.due("isServed(1)", net.isServed(1), true);
        });
        Check.part("promise 12, one that was left out once more comes first", () -> {
            Feederlight net = Nets.line(3);
            net.setCharger(3, 60);
            net.setCharger(1, 60);
            net.minute();
            Check.due("isServed(3)", net.isServed(3), false);
            Check.due("minute()", net.minute(), 1);
            Check.due("isServed(3)", net.isServed(3), true);
            Check.due("isServed(1), it is not served at first", net.isServed(1), false);
            Check.due("minute(), both left out once", net.minute(), 1);
            Check.due("isServed(1)", net.isServed(1), true);
        });
        Check.part("promise 12, those that were served before in the minute count", () -> {
            Feederlight net = Nets.line(3);
            net.setCharger(1, 40);
            net.setCharger(2, 60);
            net.setCharger(3, 1);
            Check.due("minute(), 100 by two", net.minute(), 2);
            Check.due("isServed(3)", net.isServed(3), false);
        });
        Check.part("promise 12, those that come later do not count yet", () -> {
            Feederlight net = Nets.line(3);
            net.setCharger(1, 64);
            net.setCharger(2, 64);
            net.setCharger(3, 36);
            Check.due("minute()", net.minute(), 2);
            Check.due("isServed(1)", net.isServed(1), true);
            Check.due("isServed(2)", net.isServed(2), false);
            Check.due("isServed(3), after one that is left out", net.isServed(3), true);
        });
        Check.part("promise 12, a charger has one turn, even if a later one brings it within the limits", () -> {
            Feederlight net = backwards(164);
            Check.due("minute()", net.minute(), 1);
            Check.due("isServed(1), 154 would flow back", net.isServed(1), false);
            Check.due("isServed(2), 100 flow back", net.isServed(2), true);
        });
        Check.part("promise 12, none is served where only both at once would keep the limits", () -> {
            Feederlight net = backwards(170);
            Check.due("minute()", net.minute(), 0);
            Check.due("leftOut(1), 160 would flow back", net.leftOut(1), 1);
            Check.due("leftOut(2), 106 would flow back", net.leftOut(2), 1);
        });
    }

    /** A roof and a charger of 10 at node 1, behind a rating of 100, and a charger of 64 behind it. */
    private static Feederlight backwards(int roof) {
        Feederlight net = Nets.line(2);
        net.setRoof(1, roof);
        net.setSun(100);
        net.setCharger(1, 10);
        net.setCharger(2, 64);
        return net;
    }

    private static void notServed() {
        Check.part("promise 12, a charger at a node that is cut off is left out once more", () -> {
            Feederlight net = Nets.cutOff();
            net.setCharger(3, 1);
            Check.due("minute()", net.minute(), 0);
            Check.due("leftOut(3)", net.leftOut(3), 1);
            Check.due("minute()", net.minute(), 0);
            Check.due("leftOut(3)", net.leftOut(3), 2);
        });
        Check.part("promise 12, a charger that is served is not left out", () -> {
            Feederlight net = Nets.line(1);
            net.setCharger(1, 64);
            Check.due("minute()", net.minute(), 1);
            Check.due("leftOut(1)", net.leftOut(1), 0);
        });
        Check.part("promise 12, none is served when the limits are broken without any", () -> {
            Feederlight net = Nets.star(2);
            net.setCharger(0, 1);
            net.setCharger(1, 1);
            net.setCharger(2, 1);
            Check.due("minute()", net.minute(), 3);
            net.setLoad(2, 101);
            Check.due("minute(), they were served before it", net.minute(), 0);
            for (int node = 0; node <= 2; node++) {
                Check.due("leftOut(" + node + ")", net.leftOut(node), 1);
                Check.due("isServed(" + node + ")", net.isServed(node), false);
            }
        });
    }

    private static void heats() {
        Check.part("promise 12, a heat of 0 stays 0 at the rating", () -> heatOf(0, 100, 0));
        Check.part("promise 12, a heat of 0 grows by 1 at one above the rating", () -> heatOf(0, 101, 1));
        Check.part("promise 12, a heat of 4 falls to 0, not below", () -> heatOf(4, 0, 0));
        Check.part("promise 12, a heat of 5 falls to 0", () -> heatOf(5, 0, 0));
        Check.part("promise 12, a heat of 6 falls to 1", () -> heatOf(6, 0, 1));
        Check.part("promise 12, a heat falls at just the rating too", () -> heatOf(50, 100, 45));
        Check.part("promise 12, a heat grows by the difference to what it was", () -> heatOf(50, 130, 80));
        Check.part("promise 12, a fuse with a heat of 99 is whole", () -> {
            Feederlight net = heatOf(98, 101, 99);
            Check.due("isBlown(1)", net.isBlown(1), false);
            Check.due("isFed(1)", net.isFed(1), true);
        });
        Check.part("promise 12, a fuse with a heat of 100 is blown", () -> {
            Feederlight net = heatOf(99, 101, 100);
            Check.due("isBlown(1)", net.isBlown(1), true);
            Check.due("isFed(1)", net.isFed(1), false);
        });
        Check.part("promise 12, a fuse with a heat of more than 100 is blown", () -> {
            Feederlight net = heatOf(99, 200, 199);
            Check.due("isBlown(1)", net.isBlown(1), true);
        });
        Check.part("promise 12, what flows back heats by its amperes without the sign", () -> {
            Feederlight net = Nets.line(1);
            net.setRoof(1, 101);
            net.setSun(100);
            net.minute();
            Check.due("heat(1)", net.heat(1), 1);
            net.setRoof(1, 100);
            net.minute();
            Check.due("heat(1)", net.heat(1), 0);
        });
    }

    /** A fuse with a rating of 100 is brought to a heat in a minute; then it carries a load for one more. */
    private static Feederlight heatOf(int heat, int load, int then) {
        Feederlight net = Nets.line(1);
        net.setLoad(1, heat > 0 ? 100 + heat : 0);
        net.minute();
        Check.due("heat(1)", net.heat(1), heat);
        net.setLoad(1, load);
        net.minute();
        Check.due("heat(1), then", net.heat(1), then);
        return net;
    }

    private static void heatsOfWhatIsServed() {
        Check.part("promise 12, a charger that is left out does not heat", () -> {
            Feederlight net = Nets.line(1);
            net.setLoad(1, 100);
            net.setCharger(1, 64);
            net.minute();
            Check.due("heat(1)", net.heat(1), 0);
        });
        Check.part("promise 12, a charger that was served before and is left out now does not heat", () -> {
            Feederlight net = Nets.line(1);
            net.setCharger(1, 64);
            net.minute();
            net.setLoad(1, 101);
            Check.due("flow(1)", net.flow(1), 165);
            net.minute();
            Check.due("heat(1)", net.heat(1), 1);
        });
        Check.part("promise 12, a charger that is served takes from what flows back", () -> {
            Feederlight net = Nets.line(1);
            net.setRoof(1, 120);
            net.setSun(100);
            net.minute();
            Check.due("heat(1)", net.heat(1), 20);
            net.setCharger(1, 20);
            net.minute();
            Check.due("heat(1)", net.heat(1), 15);
        });
    }

    private static void heatsThatStay() {
        Check.part("promise 12, a blown fuse keeps its heat", () -> {
            Feederlight net = Nets.cutOff();
            net.pass(3);
            Check.due("heat(2)", net.heat(2), 100);
        });
        Check.part("promise 12, a whole fuse keeps its heat while no node is fed over it", () -> {
            Feederlight net = Nets.line(2);
            net.setLoad(1, 70);
            net.setLoad(2, 130);
            net.minute();
            Check.due("isBlown(1)", net.isBlown(1), true);
            Check.due("heat(2)", net.heat(2), 30);
            net.pass(3);
            Check.due("heat(2), cut off", net.heat(2), 30);
            net.setLoad(1, 0);
            net.setLoad(2, 0);
            net.replaceFuse(1);
            net.minute();
            Check.due("heat(2), fed again", net.heat(2), 25);
        });
        Check.part("promise 12, a cable from the child to the parent heats by the flow of the parent", () -> {
            Feederlight net = Nets.fedByItsChild();
            net.setLoad(1, 53);
            net.setLoad(2, 200);
            net.minute();
            Check.due("heat(2), not by 253", net.heat(2), 3);
            Check.due("heat(1), fed, but not over its cable", net.heat(1), 100);
        });
        Check.part("promise 12, a charger at a parent is served by the rating of its child's cable", () -> {
            Feederlight net = Nets.fedByItsChild();
            net.setCharger(1, 51);
            Check.due("minute(), 51", net.minute(), 0);
            net.setCharger(1, 50);
            Check.due("minute(), 50", net.minute(), 1);
        });
        Check.part("promise 12, a tie has no fuse and carries any current", () -> {
            Feederlight net = Nets.cutOff();
            net.addTie(0, 2, 1);
            net.setLoad(2, 200);
            net.setLoad(3, 100);
            net.pass(100);
            Check.due("isFed(2)", net.isFed(2), true);
            Check.due("isClosed(0)", net.isClosed(0), true);
            Check.due("flow(2)", net.flow(2), 300);
        });
    }

    private static void blownFuses() {
        Check.part("promise 12, fuses that blow in one minute blow at once", () -> {
            Feederlight net = Nets.line(3);
            net.setLoad(3, 200);
            net.minute();
            for (int node = 1; node <= 3; node++) {
                Check.due("isBlown(" + node + ")", net.isBlown(node), true);
                Check.due("heat(" + node + ")", net.heat(node), 100);
            }
        });
        Check.part("promise 12, a tie feeds what a fuse cuts off, in the same minute", () -> {
            Feederlight net = Nets.star(2);
            net.addTie(1, 2, 1);
            Nets.blow(net, 1);
            Check.due("isClosed(0)", net.isClosed(0), true);
            Check.due("feeder(1)", net.feeder(1), 2);
        });
        Check.part("promise 12, all 11 fuses blow in one minute, and node 0 is still fed", () -> {
            Feederlight net = allTooMuch();
            Check.due("minute()", net.minute(), 0);
            Check.due("fedShare()", net.fedShare(), 1.0f / 12.0f);
        });
    }

    /** 11 nodes right behind the transformer, with 200 amperes over each rating of 100. */
    private static Feederlight allTooMuch() {
        Feederlight net = Nets.star(11);
        for (int node = 1; node < 12; node++) {
            net.setLoad(node, 200);
        }
        return net;
    }

    private static void passes() {
        Edge.outside("promise 13, a number of minutes", 1, 100, Feederlight::pass);
        Edge.refused("promise 13, no minute in a new net", Check.ARGUMENT, Feederlight::new, net -> net.pass(0));
        Edge.refused("promise 13, 101 minutes in a full net", Check.ARGUMENT, Nets::full, net -> net.pass(101));
        Check.part("promise 13, 1 minute is allowed, and is one", () -> passOf(1));
        Check.part("promise 13, 40 minutes at once are 40 one by one", () -> passOf(40));
        Check.part("promise 13, 100 minutes are allowed, and are 100", () -> {
            Feederlight net = Nets.busy();
            int before = net.minutes();
            net.pass(100);
            Check.due("minutes()", net.minutes(), before + 100);
        });
    }

    /** As many minutes at once do what they do one by one. */
    private static void passOf(int minutes) {
        Feederlight net = Nets.busy();
        Feederlight twin = Nets.busy();
        net.pass(minutes);
        for (int count = 0; count < minutes; count++) {
            twin.minute();
        }
        Edge.alike(net, twin);
    }

    private static void passesThatBlow() {
        Check.part("promise 13, no fuse is blown in minutes with nothing to carry",
                () -> Check.due("pass(100)", Nets.star(11).pass(100), 0));
        Check.part("promise 13, a new net has no fuse that could blow",
                () -> Check.due("pass(100)", new Feederlight().pass(100), 0));
        Check.part("promise 13, all 11 fuses can blow in a pass of 1 minute",
                () -> Check.due("pass(1)", allTooMuch().pass(1), 11));
        Check.part("promise 13, a fuse that blows in the first minute counts once",
                () -> Check.due("pass(100)", oneAt(200).pass(100), 1));
        Check.part("promise 13, a fuse that blows in the last minute counts",
                () -> Check.due("pass(100)", oneAt(101).pass(100), 1));
        Check.part("promise 13, a fuse that blows in the minute after the last one does not count", () -> {
            Feederlight net = oneAt(101);
            Check.due("pass(99)", net.pass(99), 0);
            Check.due("heat(1)", net.heat(1), 99);
            Check.due("pass(1)", net.pass(1), 1);
        });
        Check.part("promise 13, a fuse that was blown before does not count",
                () -> Check.due("pass(100)", Nets.cutOff().pass(100), 0));
        Check.part("promise 13, fuses that blow one after another all count", () -> {
            Feederlight net = Nets.star(2);
            net.setLoad(1, 200);
            net.setLoad(2, 102);
            Check.due("pass(49)", net.pass(49), 1);
            Check.due("pass(1)", net.pass(1), 1);
            Check.due("pass(100)", net.pass(100), 0);
        });
        Check.part("promise 13, a fuse that blows as a tie brings it more counts in the same pass", () -> {
            Feederlight net = Nets.star(2);
            net.addTie(1, 2, 1);
            net.setLoad(1, 200);
            Check.due("pass(1)", net.pass(1), 1);
            Check.due("pass(1)", net.pass(1), 1);
            Feederlight twin = Nets.star(2);
            twin.addTie(1, 2, 1);
            twin.setLoad(1, 200);
            Check.due("pass(2)", twin.pass(2), 2);
        });
    }

    private static Feederlight oneAt(int load) {
        Feederlight net = Nets.line(1);
        net.setLoad(1, load);
        return net;
    }

    private static void refusedFuses() {
        Edge.noSuchNode("promise 14, a fuse of node", Feederlight::replaceFuse);
        Edge.refused("promise 14, a fuse of node 0", Check.STATE, Nets::busy, net -> net.replaceFuse(0));
        Edge.refused("promise 14, a fuse of node 0 in a new net", Check.STATE, Feederlight::new,
                net -> net.replaceFuse(0));
        Edge.refused("promise 14, a fuse that is whole", Check.STATE, Nets::busy, net -> net.replaceFuse(1));
        Edge.refused("promise 14, a fuse that is whole and warm", Check.STATE, Nets::busy, net -> net.replaceFuse(4));
        Edge.refused("promise 14, a fuse with a heat of 99", Check.STATE, () -> {
            Feederlight net = oneAt(199);
            net.minute();
            return net;
        }, net -> net.replaceFuse(1));
        Edge.refused("promise 14, a fuse that is whole at a node that is cut off", Check.STATE, Nets::cutOff,
                net -> net.replaceFuse(3));
        Edge.refused("promise 14, a fuse that was just replaced", Check.STATE, () -> {
            Feederlight net = Nets.cutOff();
            net.replaceFuse(2);
            return net;
        }, net -> net.replaceFuse(2));
    }

    private static void replacedFuses() {
        Check.part("promise 14, a fuse with a heat of 100 is replaced by one of 0", () -> {
            Feederlight net = Nets.cutOff();
            Check.due("heat(2)", net.heat(2), 100);
            Check.due("replaceFuse(2)", net.replaceFuse(2), 4);
            Check.due("heat(2)", net.heat(2), 0);
            Check.due("isBlown(2)", net.isBlown(2), false);
            Check.due("isFed(3)", net.isFed(3), true);
        });
        Check.part("promise 14, a node behind two blown fuses stays cut off when the far one is replaced", () -> {
            Feederlight net = Nets.line(2);
            Nets.blow(net, 2);
            Check.due("replaceFuse(2)", net.replaceFuse(2), 1);
            Check.due("isBlown(2)", net.isBlown(2), false);
            Check.due("isFed(2)", net.isFed(2), false);
            Check.due("replaceFuse(1)", net.replaceFuse(1), 3);
        });
        Check.part("promise 14, the number of nodes that are fed grows to all 12", () -> {
            Feederlight net = allTooMuch();
            net.minute();
            for (int node = 1; node < 12; node++) {
                Check.due("replaceFuse(" + node + ")", net.replaceFuse(node), node + 1);
            }
        });
        Check.part("promise 14, the tie that fed the node is open again", () -> {
            Feederlight net = Nets.busy();
            Check.due("isClosed(0)", net.isClosed(0), true);
            Check.due("replaceFuse(5), all were fed before it too", net.replaceFuse(5), 6);
            Check.due("isClosed(0)", net.isClosed(0), false);
            Check.due("feeder(5)", net.feeder(5), 4);
        });
        Check.part("promise 14, a fuse can blow and be replaced again", () -> {
            Feederlight net = Nets.cutOff();
            net.replaceFuse(2);
            net.setLoad(2, 199);
            Check.due("pass(1)", net.pass(1), 0);
            Check.due("pass(1)", net.pass(1), 1);
            Check.due("heat(2)", net.heat(2), 198);
            Check.due("replaceFuse(2)", net.replaceFuse(2), 4);
            Check.due("heat(2)", net.heat(2), 0);
        });
    }

    private static void sums() {
        Check.part("promise 31, no minute has passed by calls other than minute and pass", () -> {
            Feederlight net = Nets.star(2);
            net.setCharger(1, 64);
            net.mostServed();
            net.turn(0);
            Check.due("minutes()", net.minutes(), 0);
        });
        Check.part("promise 31, minutes pass without any charger or node", () -> {
            Feederlight net = new Feederlight();
            net.minute();
            net.pass(1);
            net.pass(100);
            Check.due("minutes()", net.minutes(), 102);
        });
        Check.part("promises 31, 32 and 25, the most that 512 calls can bring", () -> {
            Feederlight net = new Feederlight();
            net.setCharger(0, 64);
            for (int call = 0; call < 505; call++) {
                net.pass(100);
            }
            Check.due("minutes()", net.minutes(), 50500);
            Check.due("charged()", net.charged(), 3232000L);
            net.setBase(2000);
            net.pass(100);
            Check.due("leftOut(0)", net.leftOut(0), 100);
            Check.due("charged()", net.charged(), 3232000L);
        });
        Check.part("promise 32, nothing is charged when no charger is served", () -> {
            Feederlight net = oneAt(100);
            net.setCharger(1, 1);
            net.pass(100);
            Check.due("charged()", net.charged(), 0L);
        });
        Check.part("promise 32, what was charged stays when the charger is set to 0", () -> {
            Feederlight net = Nets.line(1);
            net.setCharger(1, 64);
            net.minute();
            net.setCharger(1, 0);
            net.pass(100);
            Check.due("charged()", net.charged(), 64L);
        });
        Check.part("promise 32, each minute counts with the current that the charger had in it", () -> {
            Feederlight net = Nets.line(1);
            net.setCharger(1, 1);
            net.minute();
            net.setCharger(1, 64);
            net.minute();
            Check.due("charged()", net.charged(), 65L);
        });
    }
}
