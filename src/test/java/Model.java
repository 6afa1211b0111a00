import java.util.ArrayList;
import java.util.Comparator;
import java.util.List;
import java.util.NoSuchElementException;
import java.util.function.IntUnaryOperator;

/**
 * The document's net once more, as a model to compare with: objects that name one another, everything found anew from
 * the words under 'Terms' at each question, and nothing kept that could be found.
 */
final class Model {
    private static final class Node {
        int number;
        Node parent;
        int resistance;
        int rating;
        int heat;
        boolean blown;
        int load;
        int charger;
        int leftOut;
        boolean servedLast;
        int layers = 1;
        IntUnaryOperator curve = sun -> 0;
        Node feeder;
        int lineResistance;
        Node cableOf;
        boolean fed;
    }

    private static final class Tie {
        Node one;
        Node other;
        int resistance;
        boolean closed;
    }

    private final List<Node> nodes = new ArrayList<>();
    private final List<Tie> ties = new ArrayList<>();
    private int base = 2300;
    private int sun = 0;
    private int minutes = 0;
    private long charged = 0;

    Model() {
        nodes.add(new Node());
        nodes.get(0).fed = true;
    }

    int nodes() {
        return nodes.size();
    }

    private Node node(int number) {
        if (number < 0 || number >= nodes.size()) {
            throw new IndexOutOfBoundsException();
        }
        return nodes.get(number);
    }

    private Node fedNode(int number) {
        Node node = node(number);
        if (!node.fed) {
            throw new NoSuchElementException();
        }
        return node;
    }

    private Node nodeWithFeeder(int number) {
        Node node = node(number);
        if (number == 0 || !node.fed) {
            throw new NoSuchElementException();
        }
        return node;
    }

    private Node nodeWithCable(int number) {
        Node node = node(number);
        if (number == 0) {
            throw new NoSuchElementException();
        }
        return node;
    }

    private static void within(int value, int least, int most) {
        if (value < least || value > most) {
            throw new IllegalArgumentException();
        }
    }

    private static void refuseWhen(boolean state) {
        if (state) {
            throw new IllegalStateException();
        }
    }

    Object call(String name, int a, int b, int c) {
        switch (name) {
            case "addNode": return addNode(a, b, c);
            case "addTie": return addTie(a, b, c);
            case "setBase": within(a, 2000, 2600); int oldBase = base; base = a; return oldBase;
            case "setLoad": node(a); within(b, 0, 200); int oldLoad = node(a).load; node(a).load = b; return oldLoad;
            case "setCharger":
                node(a); within(b, 0, 64); node(a).charger = b; node(a).servedLast = false; return node(a).leftOut;
            case "setSun": within(a, 0, 100); int oldSun = sun; sun = a; return oldSun;
            case "setRoof": return setRoof(a, b);
            case "capRoof": return capRoof(a, b);
            case "shadeRoof": return shadeRoof(a, b);
            case "roofAt": node(a); within(b, 0, 100); return node(a).curve.applyAsInt(b);
            case "minute": letPass(); return lastServed().size();
            case "pass": return pass(a);
            case "replaceFuse": return replaceFuse(a);
            case "nodes": return nodes();
            case "isFed": return node(a).fed;
            case "feeder": return nodeWithFeeder(a).feeder.number;
            case "isClosed":
                if (a < 0 || a >= ties.size()) {
                    throw new NoSuchElementException();
                }
                return ties.get(a).closed;
            case "flow": return flow(nodeWithFeeder(a), lastServed());
            case "voltage": case "voltageByWay": return voltage(fedNode(a), lastServed());
            case "lowest":
                return fedNodes().stream().min(Comparator.comparing(n -> voltage(n, lastServed()))).get().number;
            case "keepsLimits": return keepsLimits(lastServed());
            case "isServed": return node(a).servedLast && node(a).fed;
            case "leftOut": return node(a).leftOut;
            case "turn":
                if (a < 0 || a >= turns().size()) {
                    throw new NoSuchElementException();
                }
                return turns().get(a).number;
            case "mostServed": case "mostByAll": return mostServed();
            case "heat": return nodeWithCable(a).heat;
            case "isBlown": return nodeWithCable(a).blown;
            case "minutes": return minutes;
            case "charged": return charged;
            case "fedShare": return (float) fedNodes().size() / (float) nodes.size();
            case "meanVoltage":
                return (double) fedNodes().stream().mapToInt(n -> voltage(n, lastServed())).sum() / fedNodes().size();
            case "meanLeftOut":
                if (turns().isEmpty()) {
                    throw new ArithmeticException();
                }
                return (double) turns().stream().mapToInt(n -> n.leftOut).sum() / turns().size();
            case "isSound": return true;
            default: throw new UnsupportedOperationException(name);
        }
    }

    private int addNode(int parent, int resistance, int rating) {
        node(parent);
        within(resistance, 1, 20);
        within(rating, 1, 400);
        refuseWhen(nodes.size() == 12);
        Node node = new Node();
        node.number = nodes.size();
        node.parent = nodes.get(parent);
        node.resistance = resistance;
        node.rating = rating;
        nodes.add(node);
        feedAll();
        return node.number;
    }

    private int addTie(int one, int other, int resistance) {
        node(one);
        node(other);
        if (one == other) {
            throw new IllegalArgumentException();
        }
        within(resistance, 1, 20);
        refuseWhen(ties.size() == 4);
        Tie tie = new Tie();
        tie.one = node(one);
        tie.other = node(other);
        tie.resistance = resistance;
        ties.add(tie);
        feedAll();
        return ties.size() - 1;
    }

    private int setRoof(int number, int amperes) {
        Node node = node(number);
        within(amperes, 0, 200);
        int before = node.layers;
        node.layers = 1;
        node.curve = sun -> (int) Math.floor(amperes * sun / 100.0);
        return before;
    }

    private int capRoof(int number, int most) {
        Node node = node(number);
        within(most, 0, 200);
        refuseWhen(node.layers == 5);
        IntUnaryOperator below = node.curve;
        node.curve = sun -> Math.min(below.applyAsInt(sun), most);
        return ++node.layers;
    }

    private int shadeRoof(int number, int from) {
        Node node = node(number);
        within(from, 0, 100);
        refuseWhen(node.layers == 5);
        IntUnaryOperator below = node.curve;
        node.curve = sun -> sun < from ? 0 : below.applyAsInt(sun - from);
        return ++node.layers;
    }

    private int pass(int count) {
        within(count, 1, 100);
        long before = nodes.stream().filter(n -> n.blown).count();
        for (int k = 0; k < count; k++) {
            letPass();
        }
        return (int) (nodes.stream().filter(n -> n.blown).count() - before);
    }

    private int replaceFuse(int number) {
        Node node = node(number);
        refuseWhen(number == 0 || !node.blown);
        node.blown = false;
        node.heat = 0;
        feedAll();
        return fedNodes().size();
    }

    private void feedAll() {
        for (Node node : nodes) {
            node.fed = node.number == 0;
            node.feeder = null;
            node.cableOf = null;
        }
        ties.forEach(tie -> tie.closed = false);
        boolean more = true;
        while (more) {
            more = feedOverOneCable() || feedOverOneTie();
        }
    }

    private boolean feedOverOneCable() {
        for (Node node : nodes) {
            if (node.parent != null && !node.blown && node.fed != node.parent.fed) {
                Node next = node.fed ? node.parent : node;
                next.feeder = node.fed ? node : node.parent;
                next.fed = true;
                next.lineResistance = node.resistance;
                next.cableOf = node;
                return true;
            }
        }
        return false;
    }

    private boolean feedOverOneTie() {
        for (Tie tie : ties) {
            if (tie.one.fed != tie.other.fed) {
                Node next = tie.one.fed ? tie.other : tie.one;
                next.feeder = tie.one.fed ? tie.one : tie.other;
                next.fed = true;
                next.lineResistance = tie.resistance;
                tie.closed = true;
                return true;
            }
        }
        return false;
    }

    private List<Node> fedNodes() {
        return nodes.stream().filter(n -> n.fed).toList();
    }

    private List<Node> lastServed() {
        return nodes.stream().filter(n -> n.servedLast && n.fed).toList();
    }

    private int flow(Node node, List<Node> set) {
        int sum = 0;
        for (Node other : fedNodes()) {
            for (Node at = other; at != null; at = at.feeder) {
                if (at == node) {
                    sum += other.load - other.curve.applyAsInt(sun) + (set.contains(other) ? other.charger : 0);
                }
            }
        }
        return sum;
    }

    private int voltage(Node node, List<Node> set) {
        if (node.feeder == null) {
            return base;
        }
        int product = node.lineResistance * flow(node, set);
        int drop = product < 0 ? -(-product / 10) : product / 10;
        return voltage(node.feeder, set) - drop;
    }

    private boolean keepsLimits(List<Node> set) {
        for (Node node : fedNodes()) {
            if (voltage(node, set) < 2070) {
                return false;
            }
            if (node.cableOf != null && Math.abs(flow(node, set)) > node.cableOf.rating) {
                return false;
            }
        }
        return true;
    }

    private List<Node> turns() {
        return nodes.stream().filter(n -> n.charger > 0)
                .sorted(Comparator.comparing((Node n) -> -n.leftOut).thenComparing(n -> n.number)).toList();
    }

    private int mostServed() {
        List<Node> candidates = turns().stream().filter(n -> n.fed).toList();
        int most = most(candidates, 0, new ArrayList<>());
        if (most < 0) {
            throw new NoSuchElementException();
        }
        return most;
    }

    private int most(List<Node> candidates, int from, List<Node> chosen) {
        if (from == candidates.size()) {
            return keepsLimits(chosen) ? chosen.size() : -1;
        }
        int without = most(candidates, from + 1, chosen);
        chosen.add(candidates.get(from));
        int with = most(candidates, from + 1, chosen);
        chosen.remove(chosen.size() - 1);
        return Math.max(with, without);
    }

    private void letPass() {
        List<Node> order = turns();
        nodes.forEach(n -> n.servedLast = false);
        List<Node> set = new ArrayList<>();
        for (Node node : order) {
            set.add(node);
            if (!node.fed || !keepsLimits(set)) {
                set.remove(node);
                node.leftOut++;
            }
        }
        for (Node node : set) {
            node.servedLast = true;
            charged += node.charger;
        }
        for (Node node : fedNodes()) {
            if (node.cableOf != null) {
                int over = Math.abs(flow(node, set)) - node.cableOf.rating;
                node.cableOf.heat = over > 0 ? node.cableOf.heat + over : Math.max(node.cableOf.heat - 5, 0);
            }
        }
        nodes.forEach(n -> n.blown = n.heat >= 100);
        minutes++;
        feedAll();
    }
}
