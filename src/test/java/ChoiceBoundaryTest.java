import java.util.function.ToIntFunction;

/** The edges of promises 26 to 28 and 36: turns, the most chargers at once, and soundness; each is a test. */
public final class ChoiceBoundaryTest {
    public static void main(String[] args) {
        refusedPlaces();
        places();
        order();
        most("promise 27", Feederlight::mostServed);
        most("promise 28", Feederlight::mostByAll);
        refusedMost("promise 27", Feederlight::mostServed);
        refusedMost("promise 28", Feederlight::mostByAll);
        mostAtTheLimits("promise 27", Feederlight::mostServed);
        mostAtTheLimits("promise 28", Feederlight::mostByAll);
        mostWhereLessIsTooMuch("promise 27", Feederlight::mostServed);
        mostWhereLessIsTooMuch("promise 28", Feederlight::mostByAll);
        sound();
        soundWithoutAnySet();
        Check.end();
    }

    private static void refusedPlaces() {
        for (int place : new int[] {-1, 5, Integer.MIN_VALUE, Integer.MAX_VALUE}) {
            Edge.refused("promise 26, with 5 chargers, place " + place, Check.NONE, Nets::busy,
                    net -> net.turn(place));
        }
        Edge.refused("promise 26, place 0 in a new net", Check.NONE, Feederlight::new, net -> net.turn(0));
        Edge.refused("promise 26, place 0 where all chargers are of 0 amperes", Check.NONE, () -> {
            Feederlight net = Nets.line(1);
            net.setCharger(1, 64);
            net.setCharger(1, 0);
            return net;
        }, net -> net.turn(0));
        Edge.refused("promise 26, place 12 with 12 chargers", Check.NONE, () -> allAlike(1), net -> net.turn(12));
        Edge.refused("promise 26, place 12 in a full net", Check.NONE, Nets::full, net -> net.turn(12));
    }

    /** 12 nodes, each with a charger. */
    private static Feederlight allAlike(int amperes) {
        Feederlight net = Nets.star(11);
        for (int node = 0; node < 12; node++) {
            net.setCharger(node, amperes);
        }
        return net;
    }

    private static void turns(Feederlight net, int... nodes) {
        for (int place = 0; place < nodes.length; place++) {
            int at = place;
            Check.due("turn(" + place + ")", () -> net.turn(at), nodes[place]);
        }
        Check.thrown("turn(" + nodes.length + ")", () -> net.turn(nodes.length), Check.NONE);
    }

    private static void places() {
        Check.part("promise 26, a charger of 1 ampere has a place", () -> {
            Feederlight net = Nets.line(1);
            net.setCharger(1, 1);
            turns(net, 1);
        });
        Check.part("promise 26, the first and the last of 12 places",
                () -> turns(allAlike(64), 0, 1, 2, 3, 4, 5, 6, 7, 8, 9, 10, 11));
        Check.part("promise 26, a charger at a node that is cut off has a place", () -> {
            Feederlight net = Nets.cutOff();
            net.setCharger(3, 1);
            net.setCharger(1, 1);
            turns(net, 1, 3);
        });
        Check.part("promise 26, a charger that is set to 0 amperes loses its place", () -> {
            Feederlight net = Nets.star(3);
            net.setCharger(1, 1);
            net.setCharger(2, 1);
            net.setCharger(3, 1);
            net.setCharger(2, 0);
            turns(net, 1, 3);
        });
    }

    private static void order() {
        Check.part("promise 26, of several that were left out as often the lowest number comes first", () -> {
            Feederlight net = Nets.star(3);
            net.setCharger(3, 1);
            net.setCharger(2, 1);
            net.setCharger(1, 1);
            net.setBase(2000);
            net.minute();
            turns(net, 1, 2, 3);
        });
        Check.part("promise 26, one that was left out once more comes first", () -> {
            Feederlight net = Nets.star(3);
            net.setCharger(3, 1);
            net.setBase(2000);
            net.minute();
            net.setCharger(1, 1);
            net.setCharger(2, 1);
            turns(net, 3, 1, 2);
            net.setCharger(3, 0);
            net.pass(2);
            net.setCharger(3, 1);
            turns(net, 1, 2, 3);
        });
        Check.part("promise 26, the order is of the next minute, not of the last one", () -> {
            Feederlight net = Nets.line(2);
            net.setCharger(1, 60);
            net.setCharger(2, 60);
            turns(net, 1, 2);
            net.minute();
            turns(net, 2, 1);
            net.minute();
            turns(net, 1, 2);
        });
    }

    private static void most(String promise, ToIntFunction<Feederlight> of) {
        Check.part(promise + ", 0 where there is no charger",
                () -> Check.due("most", of.applyAsInt(Nets.star(11)), 0));
        Check.part(promise + ", 0 where all chargers are of 0 amperes", () -> {
            Feederlight net = Nets.line(1);
            net.setCharger(0, 0);
            net.setCharger(1, 0);
            Check.due("most", of.applyAsInt(net), 0);
        });
        Check.part(promise + ", a charger of 1 ampere counts", () -> {
            Feederlight net = Nets.line(1);
            net.setCharger(1, 1);
            Check.due("most", of.applyAsInt(net), 1);
        });
        Check.part(promise + ", all 12 chargers", () -> Check.due("most", of.applyAsInt(allAlike(64)), 12));
        Check.part(promise + ", 0 where each charger is too much", () -> {
            Feederlight net = Nets.line(2);
            net.setLoad(1, 100);
            net.setCharger(1, 1);
            net.setCharger(2, 1);
            Check.due("most", of.applyAsInt(net), 0);
        });
        Check.part(promise + ", chargers at nodes that are cut off do not count", () -> {
            Feederlight net = Nets.cutOff();
            net.setCharger(1, 1);
            net.setCharger(2, 1);
            net.setCharger(3, 1);
            Check.due("most", of.applyAsInt(net), 1);
        });
        Check.part(promise + ", those that are served now do not count, and stay served", () -> {
            Feederlight net = Nets.line(3);
            net.setBase(2600);
            net.setCharger(1, 64);
            net.setCharger(2, 50);
            net.setCharger(3, 50);
            Check.due("minute()", net.minute(), 1);
            Check.due("most", of.applyAsInt(net), 2);
            Check.due("isServed(1)", net.isServed(1), true);
            Check.due("flow(1)", net.flow(1), 64);
        });
    }

    private static void refusedMost(String promise, ToIntFunction<Feederlight> of) {
        Edge.refused(promise + ", most at a base of 2069 without a charger", Check.NONE, () -> {
            Feederlight net = new Feederlight();
            net.setBase(2069);
            return net;
        }, of::applyAsInt);
        Edge.refused(promise + ", most of 12 chargers at a base of 2069", Check.NONE, () -> {
            Feederlight net = allAlike(1);
            net.setBase(2069);
            return net;
        }, of::applyAsInt);
        Edge.refused(promise + ", most where a load is one above the rating", Check.NONE, () -> {
            Feederlight net = Nets.line(1);
            net.setLoad(1, 101);
            net.setCharger(1, 1);
            return net;
        }, of::applyAsInt);
        Edge.refused(promise + ", most where one above the rating flows back with all chargers", Check.NONE, () -> {
            Feederlight net = Nets.line(1);
            net.setRoof(1, 165);
            net.setSun(100);
            net.setCharger(1, 64);
            return net;
        }, of::applyAsInt);
    }

    private static void mostAtTheLimits(String promise, ToIntFunction<Feederlight> of) {
        Check.part(promise + ", two chargers of just the rating", () -> Check.due("most", of.applyAsInt(two(40)), 2));
        Check.part(promise + ", two chargers of one above the rating",
                () -> Check.due("most", of.applyAsInt(two(41)), 1));
        Check.part(promise + ", 0 where a base of 2070 allows no more", () -> {
            Feederlight net = Nets.line(1);
            net.setBase(2070);
            net.setCharger(1, 1);
            Check.due("most", of.applyAsInt(net), 0);
        });
        Check.part(promise + ", 1 at just 2070", () -> {
            Feederlight net = Nets.line(1);
            net.setBase(2071);
            net.setCharger(1, 1);
            Check.due("most", of.applyAsInt(net), 1);
        });
        Check.part(promise + ", the smaller chargers with the higher numbers are chosen", () -> {
            Feederlight net = Nets.line(4);
            net.setBase(2600);
            int[] amperes = {0, 64, 64, 49, 51};
            for (int node = 1; node <= 4; node++) {
                net.setCharger(node, amperes[node]);
            }
            Check.due("most", of.applyAsInt(net), 2);
            net.setCharger(3, 50);
            Check.due("most", of.applyAsInt(net), 1);
        });
    }

    /** A charger of 60 and another one, over a rating of 100. */
    private static Feederlight two(int amperes) {
        Feederlight net = Nets.line(2);
        net.setCharger(1, 60);
        net.setCharger(2, amperes);
        return net;
    }

    private static void mostWhereLessIsTooMuch(String promise, ToIntFunction<Feederlight> of) {
        Check.part(promise + ", all where a smaller set lets too much flow back", () -> {
            Feederlight net = Nets.line(3);
            net.setRoof(1, 200);
            net.setSun(100);
            net.setCharger(1, 40);
            net.setCharger(2, 30);
            net.setCharger(3, 30);
            Check.due("keepsLimits() with none", net.keepsLimits(), false);
            Check.due("most, just 100 back", of.applyAsInt(net), 3);
            net.setCharger(3, 29);
            Check.thrown("most, 101 back", () -> of.applyAsInt(net), Check.NONE);
        });
        Check.part(promise + ", a set between none and all", () -> {
            Feederlight net = new Feederlight();
            net.addNode(0, 1, 10);
            net.addNode(1, 1, 100);
            net.addNode(1, 1, 100);
            net.setRoof(1, 50);
            net.setSun(100);
            net.setCharger(2, 40);
            net.setCharger(3, 40);
            Check.due("most, 50 back by none, 30 forth by both", of.applyAsInt(net), 1);
        });
    }

    private static void sound() {
        Check.part("promise 36, a new net is sound", () -> Check.due("isSound()", new Feederlight().isSound(), true));
        Check.part("promise 36, a full net is sound", () -> Check.due("isSound()", Nets.full().isSound(), true));
        Check.part("promise 36, a net with a closed tie is sound",
                () -> Check.due("isSound()", Nets.busy().isSound(), true));
        Check.part("promise 36, a net with nodes that are cut off is sound", () -> {
            Feederlight net = Nets.cutOff();
            Check.due("isSound()", net.isSound(), true);
            net.addTie(2, 3, 1);
            Check.due("isSound(), a tie between them", net.isSound(), true);
        });
        Check.part("promise 36, a net out of its limits is sound, as long as a set keeps them", () -> {
            Feederlight net = Nets.line(1);
            net.setCharger(1, 64);
            net.minute();
            net.setLoad(1, 37);
            Check.due("keepsLimits()", net.keepsLimits(), false);
            Check.due("isSound()", net.isSound(), true);
        });
    }

    private static void soundWithoutAnySet() {
        Check.part("promise 36, a net in which no set keeps the limits is sound", () -> {
            Feederlight net = allAlike(64);
            net.setBase(2069);
            Check.thrown("mostServed()", net::mostServed, Check.NONE);
            Check.due("isSound()", net.isSound(), true);
        });
        Check.part("promise 36, isSound changes nothing", () -> {
            Feederlight net = Nets.busy();
            Check.due("isSound()", net.isSound(), true);
            Edge.alike(net, Nets.busy());
        });
    }
}
