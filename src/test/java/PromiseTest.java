import java.util.function.Supplier;

/** For each promise of the document: ordinary inputs, the edges that it names, and wrong inputs. */
public final class PromiseTest {
    public static void main(String[] args) {
        Check.part("promise 1", PromiseTest::promise1);
        Check.part("promise 2", PromiseTest::promise2);
        Check.part("promise 3", PromiseTest::promise3);
        Check.part("promise 4", PromiseTest::promise4);
        Check.part("promise 5", PromiseTest::promise5);
        Check.part("promise 6", PromiseTest::promise6);
        Check.part("promise 7", PromiseTest::promise7);
        Check.part("promise 8", PromiseTest::promise8);
        Check.part("promise 9", PromiseTest::promise9);
        Check.part("promise 10", PromiseTest::promise10);
        Check.part("promise 11", PromiseTest::promise11);
        Check.part("promise 12, turns", PromiseTest::promise12Turns);
        Check.part("promise 12, chargers of 0 amperes", PromiseTest::promise12Zero);
        Check.part("promise 12, what is cut off", PromiseTest::promise12CutOff);
        Check.part("promise 12, heat", PromiseTest::promise12Heat);
        Check.part("promise 13", PromiseTest::promise13);
        Check.part("promise 14", PromiseTest::promise14);
        Check.part("promise 15", PromiseTest::promise15);
        Check.part("promise 16", PromiseTest::promise16);
        Check.part("promise 17", PromiseTest::promise17);
        Check.part("promise 18", PromiseTest::promise18);
        Check.part("promise 18, ties one after another", PromiseTest::promise18Chain);
        Check.part("promise 19", PromiseTest::promise19);
        Check.part("promise 20", PromiseTest::promise20);
        Check.part("promise 21", PromiseTest::promise21);
        Check.part("promise 22", PromiseTest::promise22);
        Check.part("promise 23, voltage", PromiseTest::promise23Voltage);
        Check.part("promise 23, fuses", PromiseTest::promise23Fuses);
        Check.part("promise 24", PromiseTest::promise24);
        Check.part("promise 25", PromiseTest::promise25);
        Check.part("promise 26", PromiseTest::promise26);
        Check.part("promise 27", () -> promises27And28(true));
        Check.part("promise 28", () -> promises27And28(false));
        Check.part("promise 29", PromiseTest::promise29);
        Check.part("promise 30", PromiseTest::promise30);
        Check.part("promise 31", PromiseTest::promise31);
        Check.part("promise 32", PromiseTest::promise32);
        Check.part("promise 33", PromiseTest::promise33);
        Check.part("promise 34", PromiseTest::promise34);
        Check.part("promise 35", PromiseTest::promise35);
        Check.part("promise 36", PromiseTest::promise36);
        Check.end();
    }

    /** With an argument at both ends of its range, and just outside of them. */
    private static void range(Feederlight net, String call, java.util.function.IntFunction<Object> got, int least,
            int most) {
        Check.refused(net, call + " with " + (least - 1), () -> got.apply(least - 1), Check.ARGUMENT);
        Check.refused(net, call + " with " + (most + 1), () -> got.apply(most + 1), Check.ARGUMENT);
        Check.refused(net, call + " with the least int", () -> got.apply(Integer.MIN_VALUE), Check.ARGUMENT);
        Check.refused(net, call + " with the greatest int", () -> got.apply(Integer.MAX_VALUE), Check.ARGUMENT);
        for (int value : new int[] {least, most}) {
            Object answer = Check.answer(() -> got.apply(value));
            if (answer instanceof String) {
                Check.fail(call + " with " + value + " threw " + answer);
            }
        }
    }

    private static void noSuchNode(Feederlight net, String call, java.util.function.IntFunction<Object> got) {
        for (int node : new int[] {-1, net.nodes(), 12, Integer.MIN_VALUE, Integer.MAX_VALUE}) {
            Check.refused(net, call + " with node " + node, () -> got.apply(node), Check.INDEX);
        }
    }

    private static void promise1() {
        Feederlight net = new Feederlight();
        Check.due("nodes()", net.nodes(), 1);
        Check.due("isFed(0)", net.isFed(0), true);
        Check.due("voltage(0)", net.voltage(0), 2300);
        Check.due("voltageByWay(0)", net.voltageByWay(0), 2300);
        Check.due("lowest()", net.lowest(), 0);
        Check.due("keepsLimits()", net.keepsLimits(), true);
        Check.due("isServed(0)", net.isServed(0), false);
        Check.due("leftOut(0)", net.leftOut(0), 0);
        Check.due("mostServed()", net.mostServed(), 0);
        Check.due("mostByAll()", net.mostByAll(), 0);
        Check.due("minutes()", net.minutes(), 0);
        Check.due("charged()", net.charged(), 0L);
        Check.due("fedShare()", net.fedShare(), 1.0f);
        Check.due("meanVoltage()", net.meanVoltage(), 2300.0);
        Check.due("isSound()", net.isSound(), true);
        Check.due("isClosed(0)", () -> net.isClosed(0), Check.NONE.getName());
        Check.due("turn(0)", () -> net.turn(0), Check.NONE.getName());
        Check.due("meanLeftOut()", net::meanLeftOut, Check.ARITHMETIC.getName());
        Check.due("setBase(2300)", net.setBase(2300), 2300);
        Check.due("setSun(0)", net.setSun(0), 0);
        Check.due("setLoad(0, 0)", net.setLoad(0, 0), 0);
        Check.due("roofAt(0, 100)", net.roofAt(0, 100), 0);
        Check.due("setRoof(0, 0)", net.setRoof(0, 0), 1);
        Feederlight other = new Feederlight();
        other.addNode(0, 1, 1);
        Check.due("nodes() beside another net", net.nodes(), 1);
    }

    private static void promise2() {
        Feederlight net = new Feederlight();
        noSuchNode(net, "addNode", node -> net.addNode(node, 1, 1));
        Check.refused(net, "addNode(1, 0, 0)", () -> net.addNode(1, 0, 0), Check.INDEX);
        range(net, "addNode with a resistance", value -> net.addNode(0, value, 1), 1, 20);
        range(net, "addNode with a rating", value -> net.addNode(0, 1, value), 1, 400);
        Check.due("nodes() after four that were added", net.nodes(), 5);
        for (int node = 5; node < 12; node++) {
            Check.due("addNode", net.addNode(node - 1, 3, 20), node);
            Check.due("isFed", net.isFed(node), true);
            Check.due("feeder", net.feeder(node), node - 1);
            Check.due("heat", net.heat(node), 0);
            Check.due("isBlown", net.isBlown(node), false);
        }
        Check.refused(net, "addNode, the 13th", () -> net.addNode(0, 1, 1), Check.STATE);
        Check.refused(net, "addNode(12, 1, 1) when full", () -> net.addNode(12, 1, 1), Check.INDEX);
        Check.refused(net, "addNode(0, 21, 1) when full", () -> net.addNode(0, 21, 1), Check.ARGUMENT);
        Check.refused(net, "addNode(0, 1, 401) when full", () -> net.addNode(0, 1, 401), Check.ARGUMENT);

        Feederlight cut = Nets.star(1);
        Nets.blow(cut, 1);
        Check.due("addNode behind a blown fuse", cut.addNode(1, 1, 1), 2);
        Check.due("isFed(2)", cut.isFed(2), false);
        Check.due("addNode beside it", cut.addNode(0, 1, 1), 3);
        Check.due("isFed(3)", cut.isFed(3), true);
    }

    private static void promise3() {
        Feederlight net = Nets.star(2);
        noSuchNode(net, "addTie", node -> net.addTie(node, 0, 1));
        noSuchNode(net, "addTie, the other one", node -> net.addTie(0, node, 1));
        Check.refused(net, "addTie(3, 3, 0)", () -> net.addTie(3, 3, 0), Check.INDEX);
        Check.refused(net, "addTie(0, 3, 0)", () -> net.addTie(0, 3, 0), Check.INDEX);
        Check.refused(net, "addTie(0, 0, 1)", () -> net.addTie(0, 0, 1), Check.ARGUMENT);
        Check.refused(net, "addTie(2, 2, 20)", () -> net.addTie(2, 2, 20), Check.ARGUMENT);
        range(net, "addTie with a resistance", value -> net.addTie(1, 2, value), 1, 20);
        Check.due("addTie, the third", net.addTie(2, 1, 5), 2);
        Check.due("addTie, the fourth", net.addTie(0, 1, 5), 3);
        Check.refused(net, "addTie, the fifth", () -> net.addTie(0, 1, 5), Check.STATE);
        Check.refused(net, "addTie(3, 0, 1) when full", () -> net.addTie(3, 0, 1), Check.INDEX);
        Check.refused(net, "addTie(1, 1, 1) when full", () -> net.addTie(1, 1, 1), Check.ARGUMENT);
        Check.refused(net, "addTie(1, 0, 21) when full", () -> net.addTie(1, 0, 21), Check.ARGUMENT);
        for (int tie = 0; tie < 4; tie++) {
            Check.due("isClosed of a tie between nodes that are fed", net.isClosed(tie), false);
        }

        Feederlight cut = Nets.star(2);
        Nets.blow(cut, 1);
        Check.due("isFed(1)", cut.isFed(1), false);
        Check.due("addTie to what is cut off", cut.addTie(1, 2, 4), 0);
        Check.due("isFed(1)", cut.isFed(1), true);
        Check.due("isClosed(0)", cut.isClosed(0), true);
        Check.due("feeder(1)", cut.feeder(1), 2);
        cut.setLoad(1, 20);
        Check.due("voltage(1), 20 over 10 and 20 over 4", cut.voltage(1), 2300 - 20 - 8);
    }

    private static void promise4() {
        Feederlight net = Nets.line(2);
        net.setLoad(2, 10);
        range(net, "setBase", net::setBase, 2000, 2600);
        Check.due("setBase(2000)", net.setBase(2000), 2600);
        Check.due("voltage(0)", net.voltage(0), 2000);
        Check.due("voltage(2)", net.voltage(2), 1980);
        Check.due("setBase(2345)", net.setBase(2345), 2000);
        Check.due("voltageByWay(2)", net.voltageByWay(2), 2325);
    }

    private static void promise5() {
        Feederlight net = Nets.line(2);
        noSuchNode(net, "setLoad", node -> net.setLoad(node, 1));
        Check.refused(net, "setLoad(3, 201)", () -> net.setLoad(3, 201), Check.INDEX);
        range(net, "setLoad", value -> net.setLoad(2, value), 0, 200);
        Check.due("setLoad(2, 17)", net.setLoad(2, 17), 200);
        Check.due("setLoad(1, 5)", net.setLoad(1, 5), 0);
        Check.due("flow(1)", net.flow(1), 22);
        Check.due("flow(2)", net.flow(2), 17);
        Check.due("setLoad(2, 0)", net.setLoad(2, 0), 17);
        Check.due("setLoad(0, 200)", net.setLoad(0, 200), 0);
        Check.due("flow(1)", net.flow(1), 5);
    }

    private static void promise6() {
        Feederlight net = Nets.star(1);
        noSuchNode(net, "setCharger", node -> net.setCharger(node, 1));
        Check.refused(net, "setCharger(2, 65)", () -> net.setCharger(2, 65), Check.INDEX);
        range(net, "setCharger", value -> net.setCharger(1, value), 0, 64);
        Check.due("isServed(1) before a minute", net.isServed(1), false);
        Check.due("minute()", net.minute(), 1);
        Check.due("flow(1)", net.flow(1), 64);
        Check.due("setCharger(1, 64), the same", net.setCharger(1, 64), 0);
        Check.due("isServed(1)", net.isServed(1), false);
        Check.due("flow(1)", net.flow(1), 0);
        net.setLoad(1, 101);
        Check.due("minute()", net.minute(), 0);
        Check.due("setCharger(1, 0)", net.setCharger(1, 0), 1);
        Check.due("minute()", net.minute(), 0);
        Check.due("setCharger(1, 5), left out as often", net.setCharger(1, 5), 1);
        Check.due("leftOut(1)", net.leftOut(1), 1);
        Check.due("turn(0)", net.turn(0), 1);

        Feederlight two = Nets.star(2);
        two.setCharger(1, 10);
        two.setCharger(2, 10);
        two.minute();
        two.setCharger(1, 20);
        Check.due("isServed(1) after it was set", two.isServed(1), false);
        Check.due("isServed(2) after the other was set", two.isServed(2), true);
    }

    private static void promise7() {
        Feederlight net = Nets.star(1);
        net.setRoof(1, 50);
        range(net, "setSun", net::setSun, 0, 100);
        Check.due("flow(1)", net.flow(1), -50);
        Check.due("setSun(10)", net.setSun(10), 100);
        Check.due("flow(1)", net.flow(1), -5);
        Check.due("setSun(0)", net.setSun(0), 10);
        Check.due("flow(1)", net.flow(1), 0);
    }

    private static void promise8() {
        Feederlight net = Nets.star(2);
        noSuchNode(net, "setRoof", node -> net.setRoof(node, 1));
        Check.refused(net, "setRoof(3, 201)", () -> net.setRoof(3, 201), Check.INDEX);
        range(net, "setRoof", value -> net.setRoof(1, value), 0, 200);
        Check.due("roofAt(1, 100)", net.roofAt(1, 100), 200);
        Check.due("roofAt(2, 100)", net.roofAt(2, 100), 0);
        Check.due("setRoof(1, 33)", net.setRoof(1, 33), 1);
        Check.due("roofAt(1, 0)", net.roofAt(1, 0), 0);
        Check.due("roofAt(1, 3)", net.roofAt(1, 3), 0);
        Check.due("roofAt(1, 4)", net.roofAt(1, 4), 1);
        Check.due("roofAt(1, 50)", net.roofAt(1, 50), 16);
        Check.due("roofAt(1, 99)", net.roofAt(1, 99), 32);
        Check.due("roofAt(1, 100)", net.roofAt(1, 100), 33);
        net.capRoof(1, 1);
        net.shadeRoof(1, 99);
        Check.due("setRoof(1, 40)", net.setRoof(1, 40), 3);
        Check.due("roofAt(1, 100)", net.roofAt(1, 100), 40);
        Check.due("roofAt(1, 50)", net.roofAt(1, 50), 20);
        Check.due("setRoof(1, 40)", net.setRoof(1, 40), 1);
    }

    private static void promise9() {
        Feederlight net = Nets.star(2);
        net.setRoof(1, 100);
        noSuchNode(net, "capRoof", node -> net.capRoof(node, 1));
        Check.refused(net, "capRoof(3, 201)", () -> net.capRoof(3, 201), Check.INDEX);
        Check.due("capRoof(1, 60)", net.capRoof(1, 60), 2);
        Check.due("roofAt(1, 59)", net.roofAt(1, 59), 59);
        Check.due("roofAt(1, 60)", net.roofAt(1, 60), 60);
        Check.due("roofAt(1, 61)", net.roofAt(1, 61), 60);
        Check.due("capRoof(1, 70)", net.capRoof(1, 70), 3);
        Check.due("roofAt(1, 100) under the lower cap", net.roofAt(1, 100), 60);
        range(net, "capRoof", value -> net.capRoof(1, value), 0, 200);
        Check.due("roofAt(1, 100) under a cap of 0", net.roofAt(1, 100), 0);
        Check.refused(net, "capRoof(1, 1), the fifth", () -> net.capRoof(1, 1), Check.STATE);
        Check.refused(net, "capRoof(1, 201), the fifth", () -> net.capRoof(1, 201), Check.ARGUMENT);
        Check.refused(net, "capRoof(1, -1), the fifth", () -> net.capRoof(1, -1), Check.ARGUMENT);
        Check.due("capRoof(2, 5), another roof", net.capRoof(2, 5), 2);
        Check.due("setRoof(1, 10)", net.setRoof(1, 10), 5);
        Check.due("capRoof(1, 5)", net.capRoof(1, 5), 2);
        Check.due("capRoof(0, 200)", net.capRoof(0, 200), 2);
    }

    private static void promise10() {
        Feederlight net = Nets.star(2);
        net.setRoof(1, 100);
        noSuchNode(net, "shadeRoof", node -> net.shadeRoof(node, 1));
        Check.refused(net, "shadeRoof(3, 101)", () -> net.shadeRoof(3, 101), Check.INDEX);
        Check.due("shadeRoof(1, 30)", net.shadeRoof(1, 30), 2);
        Check.due("roofAt(1, 29)", net.roofAt(1, 29), 0);
        Check.due("roofAt(1, 30)", net.roofAt(1, 30), 0);
        Check.due("roofAt(1, 31)", net.roofAt(1, 31), 1);
        Check.due("roofAt(1, 100)", net.roofAt(1, 100), 70);
        Check.due("shadeRoof(1, 40)", net.shadeRoof(1, 40), 3);
        Check.due("roofAt(1, 70)", net.roofAt(1, 70), 0);
        Check.due("roofAt(1, 75)", net.roofAt(1, 75), 5);
        Check.due("roofAt(1, 39)", net.roofAt(1, 39), 0);
        range(net, "shadeRoof", value -> net.shadeRoof(1, value), 0, 100);
        Check.due("roofAt(1, 100)", net.roofAt(1, 100), 0);
        Check.refused(net, "shadeRoof(1, 1), the fifth", () -> net.shadeRoof(1, 1), Check.STATE);
        Check.refused(net, "shadeRoof(1, 101), the fifth", () -> net.shadeRoof(1, 101), Check.ARGUMENT);

        Feederlight mixed = Nets.star(1);
        mixed.setRoof(1, 200);
        mixed.shadeRoof(1, 20);
        mixed.capRoof(1, 90);
        mixed.shadeRoof(1, 10);
        mixed.capRoof(1, 95);
        Check.due("roofAt(1, 30)", mixed.roofAt(1, 30), 0);
        Check.due("roofAt(1, 40)", mixed.roofAt(1, 40), 20);
        Check.due("roofAt(1, 74)", mixed.roofAt(1, 74), 88);
        Check.due("roofAt(1, 75)", mixed.roofAt(1, 75), 90);
        Check.due("roofAt(1, 100)", mixed.roofAt(1, 100), 90);
        Check.refused(mixed, "shadeRoof(1, 0), the fifth", () -> mixed.shadeRoof(1, 0), Check.STATE);
        Check.refused(mixed, "capRoof(1, 0), the fifth", () -> mixed.capRoof(1, 0), Check.STATE);
    }

    private static void promise11() {
        Feederlight net = Nets.star(1);
        net.setRoof(1, 80);
        net.setSun(50);
        noSuchNode(net, "roofAt", node -> net.roofAt(node, 1));
        Check.refused(net, "roofAt(2, 101)", () -> net.roofAt(2, 101), Check.INDEX);
        range(net, "roofAt", value -> net.roofAt(1, value), 0, 100);
        Check.due("roofAt(1, 25)", net.roofAt(1, 25), 20);
        Check.due("roofAt(1, 100)", net.roofAt(1, 100), 80);
        Check.due("roofAt(0, 100)", net.roofAt(0, 100), 0);
        Check.due("setSun(50), not set by roofAt", net.setSun(50), 50);
        Check.due("flow(1)", net.flow(1), -40);
        net.shadeRoof(1, 100);
        Check.due("roofAt(1, 99)", net.roofAt(1, 99), 0);
        Check.due("roofAt(1, 100)", net.roofAt(1, 100), 0);
    }

    /** A cable of 100 amperes for three chargers of 50: two of them at a time. */
    private static void promise12Turns() {
        Feederlight net = new Feederlight();
        net.addNode(0, 1, 100);
        for (int node = 2; node <= 4; node++) {
            net.addNode(1, 1, 100);
            net.setCharger(node, 50);
        }
        int[] leftOutEach = {4, 3, 2, 4, 3, 2};
        for (int count = 0; count < leftOutEach.length; count++) {
            Check.due("minute()", net.minute(), 2);
            for (int node = 2; node <= 4; node++) {
                Check.due("isServed(" + node + ") in minute " + count, net.isServed(node), node != leftOutEach[count]);
            }
            Check.due("flow(1)", net.flow(1), 100);
        }
        for (int node = 2; node <= 4; node++) {
            Check.due("leftOut", net.leftOut(node), 2);
        }
        Check.due("charged()", net.charged(), 600L);

        Feederlight later = new Feederlight();
        later.addNode(0, 1, 60);
        later.setCharger(0, 64);
        later.setCharger(1, 61);
        later.addNode(1, 1, 60);
        later.setCharger(2, 60);
        Check.due("minute(), the one after a refused one is tried too", later.minute(), 2);
        Check.due("isServed(0)", later.isServed(0), true);
        Check.due("isServed(1)", later.isServed(1), false);
        Check.due("isServed(2)", later.isServed(2), true);
    }

    private static void promise12Zero() {
        Feederlight net = Nets.star(2);
        net.setCharger(1, 0);
        Check.due("minute()", net.minute(), 0);
        Check.due("leftOut(1)", net.leftOut(1), 0);
        Check.due("isServed(1)", net.isServed(1), false);
        net.setBase(2069);
        net.setCharger(2, 1);
        Check.due("minute() outside of the limits", net.minute(), 0);
        Check.due("leftOut(1)", net.leftOut(1), 0);
        Check.due("leftOut(2)", net.leftOut(2), 1);
        net.setBase(2300);
        Check.due("minute()", net.minute(), 1);
        Check.due("leftOut(2)", net.leftOut(2), 1);
        net.setBase(2069);
        Check.due("minute(), it was served in the one before", net.minute(), 0);
        Check.due("isServed(2)", net.isServed(2), false);
        Check.due("leftOut(2)", net.leftOut(2), 2);
        Check.due("minutes()", net.minutes(), 4);
    }

    private static void promise12CutOff() {
        Feederlight net = Nets.star(2);
        Nets.blow(net, 1);
        net.setCharger(1, 10);
        net.setCharger(2, 10);
        Check.due("turn(0)", net.turn(0), 1);
        Check.due("minute()", net.minute(), 1);
        Check.due("isServed(1)", net.isServed(1), false);
        Check.due("leftOut(1)", net.leftOut(1), 1);
        Check.due("leftOut(2)", net.leftOut(2), 0);
        Check.due("heat(1), not fed over its cable", net.heat(1), 100);
        net.setLoad(1, 200);
        Check.due("minute(), what is cut off takes nothing", net.minute(), 1);
        Check.due("isServed(2)", net.isServed(2), true);
    }

    private static void promise12Heat() {
        Feederlight net = new Feederlight();
        net.addNode(0, 1, 50);
        net.setLoad(1, 50);
        net.minute();
        Check.due("heat(1) at the rating", net.heat(1), 0);
        net.setLoad(1, 51);
        net.minute();
        Check.due("heat(1) one above the rating", net.heat(1), 1);
        net.setLoad(1, 62);
        net.minute();
        Check.due("heat(1)", net.heat(1), 13);
        net.setLoad(1, 50);
        net.minute();
        Check.due("heat(1), less by 5", net.heat(1), 8);
        net.minute();
        Check.due("heat(1), less by 5", net.heat(1), 3);
        net.minute();
        Check.due("heat(1), not below 0", net.heat(1), 0);
        net.setLoad(1, 0);
        net.setRoof(1, 149);
        net.setSun(100);
        net.minute();
        Check.due("heat(1) by what flows back", net.heat(1), 99);
        Check.due("isBlown(1) at 99", net.isBlown(1), false);
        net.setRoof(1, 51);
        net.minute();
        Check.due("heat(1)", net.heat(1), 100);
        Check.due("isBlown(1) at 100", net.isBlown(1), true);
        Check.due("isFed(1)", net.isFed(1), false);
        net.minute();
        Check.due("heat(1), blown", net.heat(1), 100);

        Feederlight both = Nets.line(2);
        both.setLoad(2, 200);
        both.minute();
        Check.due("isBlown(1), both at once", both.isBlown(1), true);
        Check.due("isBlown(2), both at once", both.isBlown(2), true);
        Check.due("heat(2)", both.heat(2), 100);

        Feederlight up = new Feederlight();
        up.addNode(0, 1, 400);
        up.addNode(1, 1, 20);
        up.addTie(0, 2, 1);
        up.setLoad(2, 200);
        Check.due("pass(1)", up.pass(1), 1);
        Check.due("isBlown(2)", up.isBlown(2), true);
        Check.due("isFed(2), by the tie", up.isFed(2), true);
        up.minute();
        Check.due("heat(2), a tie has no fuse", up.heat(2), 180);
    }

    private static void promise13() {
        Feederlight net = Nets.star(2);
        range(net, "pass", net::pass, 1, 100);
        Check.due("minutes()", net.minutes(), 101);
        net.setLoad(1, 150);
        Check.due("pass(1)", net.pass(1), 0);
        Check.due("pass(1)", net.pass(1), 1);
        Check.due("pass(10), it blew before", net.pass(10), 0);
        Check.due("replaceFuse(1)", net.replaceFuse(1), 3);
        net.setLoad(2, 110);
        Check.due("pass(9)", net.pass(9), 1);
        Check.due("isBlown(2)", net.isBlown(2), false);
        Check.due("heat(2)", net.heat(2), 90);
        Check.due("pass(1)", net.pass(1), 1);
        Check.due("replaceFuse(1)", net.replaceFuse(1), 2);
        Check.due("replaceFuse(2)", net.replaceFuse(2), 3);
        Check.due("pass(100), both", net.pass(100), 2);
        Check.due("minutes()", net.minutes(), 223);

        Feederlight chargers = Nets.star(2);
        chargers.setCharger(1, 64);
        chargers.setCharger(2, 7);
        Check.due("pass(3)", chargers.pass(3), 0);
        Check.due("charged()", chargers.charged(), 213L);
    }

    private static void promise14() {
        Feederlight net = Nets.line(3);
        noSuchNode(net, "replaceFuse", net::replaceFuse);
        Check.refused(net, "replaceFuse(0)", () -> net.replaceFuse(0), Check.STATE);
        Check.refused(net, "replaceFuse(1), whole", () -> net.replaceFuse(1), Check.STATE);
        net.setLoad(3, 150);
        net.minute();
        Check.refused(net, "replaceFuse(1), whole with heat", () -> net.replaceFuse(1), Check.STATE);
        Check.due("heat(1)", net.heat(1), 50);
        net.minute();
        net.setLoad(3, 0);
        Check.due("isFed(1)", net.isFed(1), false);
        Check.due("replaceFuse(2), still cut off", net.replaceFuse(2), 1);
        Check.due("replaceFuse(1)", net.replaceFuse(1), 3);
        Check.due("heat(1)", net.heat(1), 0);
        Check.due("isBlown(1)", net.isBlown(1), false);
        Check.due("isFed(2)", net.isFed(2), true);
        Check.due("isFed(3)", net.isFed(3), false);
        Check.due("replaceFuse(3)", net.replaceFuse(3), 4);
        Check.refused(net, "replaceFuse(3), once more", () -> net.replaceFuse(3), Check.STATE);
        net.setLoad(1, 120);
        net.minute();
        Check.due("heat(1), from 0 on", net.heat(1), 20);
    }

    private static void promise15() {
        Feederlight net = new Feederlight();
        for (int node = 1; node < 12; node++) {
            Check.due("nodes()", net.nodes(), node);
            net.addNode(node / 2, 1, 100);
        }
        Check.due("nodes()", net.nodes(), 12);
        Nets.blow(net, 11);
        Check.due("nodes(), with one cut off", net.nodes(), 12);
    }

    private static void promise16() {
        Feederlight net = Nets.line(4);
        noSuchNode(net, "isFed", net::isFed);
        Nets.blow(net, 4);
        Check.due("isFed(0)", net.isFed(0), true);
        Check.due("isFed(1), its fuse blew too", net.isFed(1), false);
        Check.due("isFed(4)", net.isFed(4), false);
        net.addTie(0, 2, 1);
        Check.due("isFed(2) by a tie", net.isFed(2), true);
        Check.due("isFed(1), its parent's fuse is blown", net.isFed(1), false);
        Check.due("replaceFuse(2)", net.replaceFuse(2), 3);
        Check.due("isFed(1) by its child", net.isFed(1), true);
        Check.due("isFed(3)", net.isFed(3), false);
    }

    private static void promise17() {
        Feederlight net = Nets.line(3);
        noSuchNode(net, "feeder", net::feeder);
        Check.refused(net, "feeder(0)", () -> net.feeder(0), Check.NONE);
        Check.due("feeder(1)", net.feeder(1), 0);
        Check.due("feeder(3)", net.feeder(3), 2);
        net.setLoad(1, 200);
        net.minute();
        net.setLoad(1, 0);
        for (int node = 1; node <= 3; node++) {
            int cutOff = node;
            Check.refused(net, "feeder of what is cut off", () -> net.feeder(cutOff), Check.NONE);
        }
        net.addTie(3, 0, 1);
        Check.due("feeder(3) by the tie", net.feeder(3), 0);
        Check.due("feeder(2) by its child", net.feeder(2), 3);
        Check.due("feeder(1) by its child", net.feeder(1), 2);
        net.replaceFuse(1);
        Check.due("feeder(3)", net.feeder(3), 2);
        Check.due("feeder(1)", net.feeder(1), 0);
    }

    private static void promise18() {
        Feederlight net = Nets.star(3);
        for (int tie : new int[] {-1, 0, 4, Integer.MAX_VALUE, Integer.MIN_VALUE}) {
            Check.refused(net, "isClosed(" + tie + ")", () -> net.isClosed(tie), Check.NONE);
        }
        net.addTie(1, 2, 1);
        net.addTie(3, 1, 1);
        net.addTie(2, 3, 1);
        Check.refused(net, "isClosed(3)", () -> net.isClosed(3), Check.NONE);
        Nets.blow(net, 1);
        Check.due("isClosed(0), the lowest", net.isClosed(0), true);
        Check.due("isClosed(1)", net.isClosed(1), false);
        Check.due("isClosed(2)", net.isClosed(2), false);
        Check.due("feeder(1)", net.feeder(1), 2);
        net.setLoad(2, 200);
        net.minute();
        net.setLoad(2, 0);
        Check.due("isFed(1)", net.isFed(1), true);
        Check.due("isFed(2)", net.isFed(2), true);
        Check.due("isClosed(1), as 2 is cut off", net.isClosed(1), true);
        Check.due("isClosed(0), then the lowest from 1", net.isClosed(0), true);
        Check.due("isClosed(2)", net.isClosed(2), false);
        Check.due("feeder(1)", net.feeder(1), 3);
        Check.due("feeder(2)", net.feeder(2), 1);
        net.replaceFuse(1);
        Check.due("isClosed(0)", net.isClosed(0), true);
        Check.due("isClosed(1), open again", net.isClosed(1), false);
        Check.due("feeder(2)", net.feeder(2), 1);
        net.replaceFuse(2);
        Check.due("isClosed(0), open again", net.isClosed(0), false);
    }

    /** A tie with a higher number closes first where a lower one has nothing fed at either end yet. */
    private static void promise18Chain() {
        Feederlight net = Nets.star(4);
        net.addTie(4, 3, 2);
        net.addTie(3, 2, 2);
        net.addTie(2, 1, 2);
        net.addTie(1, 0, 2);
        for (int node = 1; node <= 4; node++) {
            net.setLoad(node, 200);
        }
        Check.due("pass(1)", net.pass(1), 4);
        for (int tie = 0; tie < 4; tie++) {
            Check.due("isClosed(" + tie + ")", net.isClosed(tie), true);
        }
        for (int node = 1; node <= 4; node++) {
            Check.due("feeder(" + node + ")", net.feeder(node), node - 1);
            Check.due("flow(" + node + ")", net.flow(node), 200 * (5 - node));
        }
        Check.due("voltage(4)", net.voltage(4), 2300 - 160 - 120 - 80 - 40);
        Check.due("fedShare()", net.fedShare(), 1.0f);
    }

    private static void promise19() {
        Feederlight net = Nets.line(3);
        noSuchNode(net, "flow", net::flow);
        Check.refused(net, "flow(0)", () -> net.flow(0), Check.NONE);
        net.addNode(1, 10, 100);
        net.setLoad(1, 1);
        net.setLoad(2, 2);
        net.setLoad(3, 4);
        net.setLoad(4, 8);
        net.setLoad(0, 16);
        Check.due("flow(1)", net.flow(1), 15);
        Check.due("flow(2)", net.flow(2), 6);
        Check.due("flow(3)", net.flow(3), 4);
        Check.due("flow(4)", net.flow(4), 8);
        net.setRoof(3, 100);
        net.setSun(20);
        net.setCharger(2, 32);
        Check.due("flow(1)", net.flow(1), -5);
        Check.due("flow(3)", net.flow(3), -16);
        net.minute();
        Check.due("flow(1), with the charger", net.flow(1), 27);
        Check.due("flow(2), with the charger", net.flow(2), 18);
        Check.due("flow(3)", net.flow(3), -16);
        net.setLoad(4, 200);
        net.minute();
        Check.due("isBlown(4)", net.isBlown(4), true);
        Check.refused(net, "flow(4), cut off", () -> net.flow(4), Check.NONE);
        Check.due("flow(1), without what is cut off", net.flow(1), -13);
    }

    private static void voltages(Supplier<Feederlight> fresh, VoltageOf of) {
        Feederlight net = fresh.get();
        noSuchNode(net, "voltage", node -> of.tell(net, node));
        net.addNode(0, 3, 100);
        net.addNode(1, 7, 100);
        Check.due("voltage(0)", of.tell(net, 0), 2300);
        net.setLoad(2, 9);
        Check.due("voltage(1), a drop of 2.7", of.tell(net, 1), 2298);
        Check.due("voltage(2), a drop of 6.3 more", of.tell(net, 2), 2292);
        net.setLoad(2, 0);
        net.setRoof(2, 9);
        net.setSun(100);
        Check.due("voltage(1), a rise of 2.7", of.tell(net, 1), 2302);
        Check.due("voltage(2), a rise of 6.3 more", of.tell(net, 2), 2308);
        net.setCharger(1, 64);
        Check.due("minute()", net.minute(), 1);
        Check.due("voltage(1), 55 over 3", of.tell(net, 1), 2284);
        Check.due("voltage(2)", of.tell(net, 2), 2290);
        Check.due("voltage(0)", of.tell(net, 0), 2300);
        net.addTie(0, 2, 11);
        net.setRoof(2, 0);
        net.setLoad(1, 200);
        Check.due("pass(1)", net.pass(1), 1);
        Check.due("isServed(1)", net.isServed(1), false);
        Check.due("voltage(2), 200 over the tie", of.tell(net, 2), 2080);
        Check.due("voltage(1), 200 over its child's cable", of.tell(net, 1), 1940);
        net.pass(1);
        Check.due("isBlown(2)", net.isBlown(2), true);
        Check.refused(net, "voltage(1), cut off", () -> of.tell(net, 1), Check.NONE);
        Check.due("voltage(2)", of.tell(net, 2), 2300);
    }

    private interface VoltageOf {
        int tell(Feederlight net, int node);
    }

    private static void promise20() {
        voltages(Feederlight::new, Feederlight::voltage);
    }

    private static void promise21() {
        voltages(Feederlight::new, Feederlight::voltageByWay);
    }

    private static void promise22() {
        Feederlight net = Nets.star(3);
        Check.due("lowest(), all the same", net.lowest(), 0);
        net.setLoad(1, 1);
        Check.due("lowest()", net.lowest(), 1);
        net.setLoad(1, 0);
        net.setLoad(3, 10);
        Check.due("lowest()", net.lowest(), 3);
        net.setLoad(2, 10);
        Check.due("lowest(), of two", net.lowest(), 2);
        net.setLoad(3, 11);
        Check.due("lowest()", net.lowest(), 3);
        Nets.blow(net, 3);
        net.setLoad(3, 200);
        Check.due("lowest(), the other one is cut off", net.lowest(), 2);
        net.setLoad(2, 0);
        net.setRoof(1, 100);
        net.setRoof(2, 100);
        net.setSun(100);
        Check.due("lowest(), the roofs push", net.lowest(), 0);

        Feederlight cut = Nets.star(2);
        cut.setLoad(1, 150);
        cut.minute();
        cut.minute();
        Check.due("isFed(1)", cut.isFed(1), false);
        Check.due("lowest(), what is cut off had less", cut.lowest(), 0);
    }

    private static void promise23Voltage() {
        Feederlight net = new Feederlight();
        net.setBase(2070);
        Check.due("keepsLimits() at 2070", net.keepsLimits(), true);
        net.setBase(2069);
        Check.due("keepsLimits() at 2069", net.keepsLimits(), false);
        net.setBase(2090);
        net.addNode(0, 20, 100);
        net.addNode(1, 10, 100);
        net.setLoad(1, 10);
        Check.due("keepsLimits(), node 1 at 2070", net.keepsLimits(), true);
        net.setLoad(2, 1);
        Check.due("voltage(1)", net.voltage(1), 2068);
        Check.due("keepsLimits(), node 1 at 2068", net.keepsLimits(), false);
        net.setRoof(2, 2);
        net.setSun(100);
        Check.due("voltage(1)", net.voltage(1), 2072);
        Check.due("keepsLimits()", net.keepsLimits(), true);
        net.setRoof(2, 200);
        net.setLoad(1, 200);
        Check.due("keepsLimits(), 199 back over 100", net.keepsLimits(), false);
    }

    private static void promise23Fuses() {
        Feederlight net = new Feederlight();
        net.addNode(0, 1, 50);
        net.addNode(0, 1, 400);
        net.addTie(1, 2, 1);
        net.setLoad(1, 50);
        Check.due("keepsLimits() at the rating", net.keepsLimits(), true);
        net.setLoad(1, 51);
        Check.due("keepsLimits() above the rating", net.keepsLimits(), false);
        net.setLoad(1, 0);
        net.setRoof(1, 50);
        net.setSun(100);
        Check.due("keepsLimits() at the rating, back", net.keepsLimits(), true);
        net.setRoof(1, 51);
        Check.due("keepsLimits() above the rating, back", net.keepsLimits(), false);
        net.setRoof(1, 0);
        net.setLoad(1, 150);
        net.minute();
        Check.due("isBlown(1)", net.isBlown(1), true);
        Check.due("keepsLimits(), by the tie without a fuse", net.keepsLimits(), true);
        net.addTie(1, 2, 1);
        net.setCharger(1, 64);
        Check.due("keepsLimits(), not served", net.keepsLimits(), true);

        Feederlight up = Nets.line(2);
        up.addTie(0, 2, 1);
        up.setLoad(1, 200);
        up.minute();
        Check.due("isBlown(1)", up.isBlown(1), true);
        Check.due("feeder(1)", up.feeder(1), 2);
        Check.due("keepsLimits(), 200 over the cable of node 2", up.keepsLimits(), false);
        up.setLoad(1, 100);
        Check.due("keepsLimits(), 100 over the cable of node 2", up.keepsLimits(), true);
        up.setLoad(2, 200);
        Check.due("keepsLimits(), 300 over the tie", up.keepsLimits(), true);
    }

    private static void promise24() {
        Feederlight net = Nets.star(2);
        noSuchNode(net, "isServed", net::isServed);
        net.setCharger(0, 10);
        net.setCharger(1, 10);
        Check.due("isServed(0)", net.isServed(0), false);
        net.minute();
        Check.due("isServed(0)", net.isServed(0), true);
        Check.due("isServed(1)", net.isServed(1), true);
        Check.due("isServed(2)", net.isServed(2), false);
        net.setLoad(1, 200);
        Check.due("isServed(1), until the next minute", net.isServed(1), true);
        Check.due("flow(1)", net.flow(1), 210);
        net.minute();
        Check.due("isServed(1)", net.isServed(1), false);
        Check.due("isServed(0)", net.isServed(0), false);
        net.setLoad(1, 0);
        Check.due("isServed(1)", net.isServed(1), false);
        net.minute();
        Check.due("isServed(0)", net.isServed(0), true);
        Check.due("isServed(1), cut off", net.isServed(1), false);
        net.replaceFuse(1);
        Check.due("isServed(1), fed again", net.isServed(1), false);
        net.minute();
        Check.due("isServed(1)", net.isServed(1), true);
        net.setCharger(1, 0);
        Check.due("isServed(1), set to 0", net.isServed(1), false);
    }

    private static void promise25() {
        Feederlight net = Nets.star(2);
        noSuchNode(net, "leftOut", net::leftOut);
        net.setCharger(1, 10);
        net.setCharger(2, 10);
        net.setLoad(1, 91);
        net.minute();
        Check.due("leftOut(1)", net.leftOut(1), 1);
        Check.due("leftOut(2)", net.leftOut(2), 0);
        net.pass(9);
        Check.due("leftOut(1)", net.leftOut(1), 10);
        net.setLoad(1, 90);
        net.minute();
        Check.due("leftOut(1), served", net.leftOut(1), 10);
        net.setCharger(1, 0);
        net.setLoad(1, 0);
        net.pass(5);
        Check.due("leftOut(1), of 0 amperes", net.leftOut(1), 10);
        Check.due("leftOut(0)", net.leftOut(0), 0);
    }

    private static void promise26() {
        Feederlight net = Nets.star(4);
        for (int place : new int[] {-1, 0, Integer.MAX_VALUE, Integer.MIN_VALUE}) {
            Check.refused(net, "turn(" + place + ")", () -> net.turn(place), Check.NONE);
        }
        for (int node = 4; node >= 1; node--) {
            net.setCharger(node, 60);
        }
        for (int place = 0; place < 4; place++) {
            Check.due("turn(" + place + ")", net.turn(place), place + 1);
        }
        Check.refused(net, "turn(4)", () -> net.turn(4), Check.NONE);
        net.setLoad(3, 100);
        net.pass(2);
        net.setLoad(2, 100);
        net.minute();
        order(net, 3, 2, 1, 4);
        net.setCharger(3, 0);
        order(net, 2, 1, 4);
        Check.refused(net, "turn(3)", () -> net.turn(3), Check.NONE);
        net.setCharger(3, 1);
        order(net, 3, 2, 1, 4);
        net.setCharger(0, 1);
        order(net, 3, 2, 0, 1, 4);
        net.setLoad(3, 0);
        net.setLoad(4, 200);
        net.pass(2);
        order(net, 3, 2, 4, 0, 1);
        net.pass(1);
        order(net, 2, 3, 4, 0, 1);
        Check.due("isBlown(4)", net.isBlown(4), true);
        Check.due("leftOut(4), cut off", net.leftOut(4), 3);
    }

    private static void order(Feederlight net, int... nodes) {
        for (int place = 0; place < nodes.length; place++) {
            int wanted = place;
            Check.due("turn(" + place + ")", () -> net.turn(wanted), nodes[place]);
        }
    }

    private static int most(Feederlight net, boolean fromLarger) {
        return fromLarger ? net.mostServed() : net.mostByAll();
    }

    private static void promises27And28(boolean fromLarger) {
        Feederlight net = new Feederlight();
        Check.due("most", most(net, fromLarger), 0);
        net.setBase(2069);
        Check.refused(net, "most, not even with none", () -> most(net, fromLarger), Check.NONE);
        net.setBase(2300);
        net.addNode(0, 1, 100);
        int[] amperes = {40, 50, 60, 64};
        for (int count = 0; count < amperes.length; count++) {
            net.addNode(1, 1, 100);
            net.setCharger(count + 2, amperes[count]);
        }
        Check.due("most of 40, 50, 60, 64 over 100", most(net, fromLarger), 2);
        net.minute();
        Check.due("most, with some served", most(net, fromLarger), 2);
        Check.due("flow(1), of the served ones still", net.flow(1), 90);
        net.setCharger(0, 64);
        Check.due("most, with the transformer's", most(net, fromLarger), 3);
        net.setCharger(0, 0);
        net.setLoad(1, 11);
        Check.due("most, 89 left", most(net, fromLarger), 1);
        net.setLoad(1, 60);
        Check.due("most, 40 left", most(net, fromLarger), 1);
        net.setLoad(1, 61);
        Check.due("most, 39 left", most(net, fromLarger), 0);
        net.setLoad(1, 101);
        Check.refused(net, "most, not even with none", () -> most(net, fromLarger), Check.NONE);
        net.setLoad(1, 0);
        Nets.blow(net, 2);
        Check.due("replaceFuse(1)", net.replaceFuse(1), 5);
        Check.due("most of 50, 60, 64 over 100, 40 is cut off", most(net, fromLarger), 1);
        net.setLoad(2, 200);
        Check.due("most, the load is cut off too", most(net, fromLarger), 1);
        mostWithRoof(fromLarger);
        mostByVoltage(fromLarger);
    }

    private static void mostWithRoof(boolean fromLarger) {
        Feederlight net = new Feederlight();
        net.addNode(0, 1, 20);
        int[] amperes = {40, 50, 60, 64};
        for (int count = 0; count < amperes.length; count++) {
            net.addNode(1, 1, 100);
            net.setCharger(count + 2, amperes[count]);
        }
        net.setRoof(1, 150);
        net.setSun(100);
        Check.due("most, 130 to 170 in all", most(net, fromLarger), 3);
        net.setRoof(1, 40);
        Check.due("most, 20 to 60 in all", most(net, fromLarger), 1);
        net.setRoof(1, 200);
        Check.due("most, 180 to 220 in all", most(net, fromLarger), 4);
        net.setCharger(5, 0);
        Check.refused(net, "most, 150 at most", () -> most(net, fromLarger), Check.NONE);
    }

    private static void mostByVoltage(boolean fromLarger) {
        Feederlight net = new Feederlight();
        net.setBase(2090);
        net.addNode(0, 20, 400);
        int[] amperes = {12, 6, 5, 4};
        for (int count = 0; count < amperes.length; count++) {
            net.addNode(1, 1, 100);
            net.setCharger(count + 2, amperes[count]);
        }
        Check.due("most, 10 in all", most(net, fromLarger), 2);
        net.setBase(2088);
        Check.due("most, 9 in all", most(net, fromLarger), 2);
        net.setBase(2086);
        Check.due("most, 8 in all", most(net, fromLarger), 1);
        net.setBase(2076);
        Check.due("most, 3 in all", most(net, fromLarger), 0);
        net.setCharger(2, 1);
        Check.due("most, with a charger of 1", most(net, fromLarger), 1);
    }

    private static void promise29() {
        Feederlight net = Nets.star(1);
        noSuchNode(net, "heat", net::heat);
        Check.refused(net, "heat(0)", () -> net.heat(0), Check.NONE);
        Check.due("heat(1)", net.heat(1), 0);
        net.setLoad(1, 130);
        net.pass(3);
        Check.due("heat(1)", net.heat(1), 90);
        net.setLoad(1, 100);
        net.pass(2);
        Check.due("heat(1)", net.heat(1), 80);
        net.setLoad(1, 200);
        net.minute();
        Check.due("heat(1), blown", net.heat(1), 180);
        net.pass(50);
        Check.due("heat(1), blown it does not fall", net.heat(1), 180);
        net.replaceFuse(1);
        Check.due("heat(1), a new fuse", net.heat(1), 0);
    }

    private static void promise30() {
        Feederlight net = Nets.line(2);
        noSuchNode(net, "isBlown", net::isBlown);
        Check.refused(net, "isBlown(0)", () -> net.isBlown(0), Check.NONE);
        Check.due("isBlown(1)", net.isBlown(1), false);
        net.setLoad(1, 199);
        net.minute();
        Check.due("isBlown(1) at 99", net.isBlown(1), false);
        net.minute();
        Check.due("isBlown(1)", net.isBlown(1), true);
        Check.due("isBlown(2), cut off but whole", net.isBlown(2), false);
        net.replaceFuse(1);
        Check.due("isBlown(1), a new fuse", net.isBlown(1), false);
    }

    private static void promise31() {
        Feederlight net = Nets.star(1);
        net.minute();
        Check.due("minutes()", net.minutes(), 1);
        net.pass(100);
        Check.due("minutes()", net.minutes(), 101);
        Check.refused(net, "pass(101)", () -> net.pass(101), Check.ARGUMENT);
        Check.due("minutes()", net.minutes(), 101);
    }

    private static void promise32() {
        Feederlight net = Nets.star(2);
        net.setCharger(1, 64);
        net.setCharger(2, 20);
        net.setLoad(2, 81);
        Check.due("charged()", net.charged(), 0L);
        net.minute();
        Check.due("charged(), without what is left out", net.charged(), 64L);
        net.setCharger(1, 10);
        Check.due("charged(), of past minutes", net.charged(), 64L);
        net.setLoad(2, 80);
        net.minute();
        Check.due("charged()", net.charged(), 94L);
        net.pass(100);
        Check.due("charged()", net.charged(), 3094L);
        net.setCharger(1, 0);
        net.setCharger(2, 0);
        net.pass(2);
        Check.due("charged()", net.charged(), 3094L);
    }

    private static void promise33() {
        Feederlight net = Nets.line(2);
        Check.due("fedShare()", net.fedShare(), 1.0f);
        Nets.blow(net, 2);
        Check.due("fedShare()", net.fedShare(), 1.0f / 3.0f);
        net.replaceFuse(1);
        Check.due("fedShare()", net.fedShare(), 2.0f / 3.0f);
        for (int node = 3; node < 7; node++) {
            net.addNode(0, 1, 1);
        }
        Check.due("fedShare()", net.fedShare(), 6.0f / 7.0f);
        net.addTie(0, 2, 1);
        Check.due("fedShare()", net.fedShare(), 1.0f);
    }

    private static void promise34() {
        Feederlight net = Nets.star(2);
        Check.due("meanVoltage()", net.meanVoltage(), 2300.0);
        net.setLoad(1, 7);
        Check.due("meanVoltage()", net.meanVoltage(), 6893.0 / 3.0);
        net.setBase(2100);
        Check.due("meanVoltage()", net.meanVoltage(), 6293.0 / 3.0);
        Nets.blow(net, 1);
        net.setLoad(2, 5);
        net.setLoad(1, 200);
        Check.due("meanVoltage(), of those that are fed", net.meanVoltage(), 2097.5);
    }

    private static void promise35() {
        Feederlight net = Nets.star(3);
        Check.refused(net, "meanLeftOut()", net::meanLeftOut, Check.ARITHMETIC);
        net.setCharger(1, 10);
        Check.due("meanLeftOut()", net.meanLeftOut(), 0.0);
        net.setCharger(2, 10);
        net.setLoad(2, 95);
        net.pass(5);
        Check.due("meanLeftOut()", net.meanLeftOut(), 2.5);
        net.setCharger(0, 10);
        Check.due("meanLeftOut()", net.meanLeftOut(), 5.0 / 3.0);
        net.setCharger(2, 0);
        Check.due("meanLeftOut(), without those of 0", net.meanLeftOut(), 0.0);
        net.setCharger(1, 0);
        net.setCharger(0, 0);
        Check.refused(net, "meanLeftOut()", net::meanLeftOut, Check.ARITHMETIC);
        Nets.blow(net, 3);
        net.setCharger(3, 10);
        net.pass(4);
        net.setCharger(1, 1);
        Check.due("meanLeftOut(), with what is cut off", net.meanLeftOut(), 2.0);
    }

    private static void promise36() {
        Feederlight net = Nets.line(3);
        Check.due("isSound()", net.isSound(), true);
        net.addTie(0, 3, 4);
        net.setCharger(2, 30);
        net.setCharger(3, 64);
        net.setRoof(1, 90);
        net.setSun(70);
        Check.due("isSound()", net.isSound(), true);
        net.minute();
        Check.due("isSound()", net.isSound(), true);
        net.setLoad(1, 200);
        Check.due("isSound() outside of the limits", net.isSound(), true);
        net.setBase(2000);
        Check.due("isSound() when no set keeps the limits", net.isSound(), true);
        net.pass(3);
        Check.due("isBlown(1)", net.isBlown(1), true);
        Check.due("isSound() with a tie that is closed", net.isSound(), true);
        net.addNode(1, 3, 3);
        net.pass(10);
        Check.due("isSound() with nodes that are cut off", net.isSound(), true);
    }
}
