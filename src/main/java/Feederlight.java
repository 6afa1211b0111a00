import java.util.NoSuchElementException;

/**
 * A street's low-voltage net: cables with fuses from a transformer to nodes, ties that feed what is cut off, loads,
 * roofs that push the voltage up, chargers that yield to one another by turn, and fuses that age by what they carry.
 */
public final class Feederlight {
    private static final int MOST_NODES = 12;
    private static final int MOST_TIES = 4;
    private static final int MOST_LAYERS = 5;
    private static final int MOST_RESISTANCE = 20;
    private static final int MOST_RATING = 400;
    private static final int MOST_AMPERES = 200;
    private static final int MOST_CHARGE = 64;
    private static final int MOST_SUN = 100;
    private static final int MOST_MINUTES = 100;
    private static final int FIRST_BASE = 2300;
    private static final int LEAST_BASE = 2000;
    private static final int MOST_BASE = 2600;
    private static final int LEAST_VOLTAGE = 2070;
    private static final int HEAT_THAT_BLOWS = 100;
    private static final int COOLING = 5;
    private static final int NO_TIE = -1;
    private static final int NO_SET = -1;

    private final Flows flows;
    private final Feeding feeding;
    private final Grid grid;
    private final Chargers chargers;
    private final Roof[] roofs;
    private final int[] loads;
    private final int[] ownCurrents;
    private int base;
    private int sun;
    private int minutesPassed;
    private long chargedSum;

    public Feederlight() {
        flows = new Flows();
        feeding = flows.feeding;
        grid = feeding.grid;
        chargers = new Chargers();
        roofs = new Roof[MOST_NODES];
        for (int node = 0; node < MOST_NODES; node++) {
            roofs[node] = new Roof();
        }
        loads = new int[MOST_NODES];
        ownCurrents = new int[MOST_NODES];
        base = FIRST_BASE;
        sun = 0;
        minutesPassed = 0;
        chargedSum = 0L;
    }

    public int addNode(int parent, int resistance, int rating)
            throws IndexOutOfBoundsException, IllegalArgumentException, IllegalStateException {
        checkNode(parent);
        checkRange(resistance, 1, MOST_RESISTANCE);
        checkRange(rating, 1, MOST_RATING);
        if (grid.nodeCount >= MOST_NODES) {
            throw new IllegalStateException("there are 12 nodes");
        }
        int node = grid.putNode(parent, resistance, rating);
        feeding.workOut();
        return node;
    }

    public int addTie(int node, int other, int resistance)
            throws IndexOutOfBoundsException, IllegalArgumentException, IllegalStateException {
        checkNode(node);
        checkNode(other);
        if (node == other) {
            throw new IllegalArgumentException("a tie links two nodes");
        }
        checkRange(resistance, 1, MOST_RESISTANCE);
        if (grid.tieCount >= MOST_TIES) {
            throw new IllegalStateException("there are 4 ties");
        }
        int tie = grid.putTie(node, other, resistance);
        feeding.workOut();
        return tie;
    }

    public int setBase(int voltage) throws IllegalArgumentException {
        checkRange(voltage, LEAST_BASE, MOST_BASE);
        int before = base;
        base = voltage;
        return before;
    }

    public int setLoad(int node, int amperes) throws IndexOutOfBoundsException, IllegalArgumentException {
        checkNode(node);
        checkRange(amperes, 0, MOST_AMPERES);
        int before = loads[node];
        loads[node] = amperes;
        return before;
    }

    public int setCharger(int node, int amperes) throws IndexOutOfBoundsException, IllegalArgumentException {
        checkNode(node);
        checkRange(amperes, 0, MOST_CHARGE);
        chargers.amperes[node] = amperes;
        chargers.served &= ~(1 << node);
        return chargers.timesLeftOut[node];
    }

    public int setSun(int sun) throws IllegalArgumentException {
        checkRange(sun, 0, MOST_SUN);
        int before = this.sun;
        this.sun = sun;
        return before;
    }

    public int setRoof(int node, int amperes) throws IndexOutOfBoundsException, IllegalArgumentException {
        checkNode(node);
        checkRange(amperes, 0, MOST_AMPERES);
        int before = roofs[node].layers;
        roofs[node].startWith(amperes);
        return before;
    }

    public int capRoof(int node, int most)
            throws IndexOutOfBoundsException, IllegalArgumentException, IllegalStateException {
        checkNode(node);
        checkRange(most, 0, MOST_AMPERES);
        checkRoomForLayer(node);
        return roofs[node].putLayer(false, most);
    }

    public int shadeRoof(int node, int from)
            throws IndexOutOfBoundsException, IllegalArgumentException, IllegalStateException {
        checkNode(node);
        checkRange(from, 0, MOST_SUN);
        checkRoomForLayer(node);
        return roofs[node].putLayer(true, from);
    }

    public int roofAt(int node, int sun) throws IndexOutOfBoundsException, IllegalArgumentException {
        checkNode(node);
        checkRange(sun, 0, MOST_SUN);
        return roofs[node].currentFor(sun);
    }

    public int minute() {
        letMinutePass();
        return Integer.bitCount(chargers.served & feeding.fedSet());
    }

    public int pass(int minutes) throws IllegalArgumentException {
        checkRange(minutes, 1, MOST_MINUTES);
        int blown = 0;
        for (int count = 0; count < minutes; count++) {
            blown += letMinutePass();
        }
        return blown;
    }

    public int replaceFuse(int node) throws IndexOutOfBoundsException, IllegalStateException {
        checkNode(node);
        if (node == 0) {
            throw new IllegalStateException("node 0 has no cable");
        }
        if (!grid.blown[node]) {
            throw new IllegalStateException("the fuse is whole");
        }
        grid.blown[node] = false;
        grid.heats[node] = 0;
        feeding.workOut();
        return feeding.fedCount;
    }

    public int nodes() {
        return grid.nodeCount;
    }

    public boolean isFed(int node) throws IndexOutOfBoundsException {
        checkNode(node);
        return feeding.fed[node];
    }

    public int feeder(int node) throws IndexOutOfBoundsException, NoSuchElementException {
        checkNode(node);
        checkFedOverLine(node);
        return feeding.feeders[node];
    }

    public boolean isClosed(int tie) throws NoSuchElementException {
        if (tie < 0 || tie >= grid.tieCount) {
            throw new NoSuchElementException("no such tie");
        }
        return feeding.closed[tie];
    }

    public int flow(int node) throws IndexOutOfBoundsException, NoSuchElementException {
        checkNode(node);
        checkFedOverLine(node);
        workOutFlows();
        return flows.amperes[node];
    }

    public int voltage(int node) throws IndexOutOfBoundsException, NoSuchElementException {
        checkNode(node);
        checkFed(node);
        workOutFlows();
        return flows.voltages[node];
    }

    public int voltageByWay(int node) throws IndexOutOfBoundsException, NoSuchElementException {
        checkNode(node);
        checkFed(node);
        return voltageAlongWay(node);
    }

    public int lowest() {
        workOutFlows();
        int lowest = 0;
        for (int node = 1; node < grid.nodeCount; node++) {
            if (feeding.fed[node] && flows.voltages[node] < flows.voltages[lowest]) {
                lowest = node;
            }
        }
        return lowest;
    }

    public boolean keepsLimits() {
        workOutFlows();
        return flows.areWithinLimits();
    }

    public boolean isServed(int node) throws IndexOutOfBoundsException {
        checkNode(node);
        return countsAsServed(node);
    }

    public int leftOut(int node) throws IndexOutOfBoundsException {
        checkNode(node);
        return chargers.timesLeftOut[node];
    }

    public int turn(int place) throws NoSuchElementException {
        chargers.lineUp(grid.nodeCount);
        if (place < 0 || place >= chargers.lineLength) {
            throw new NoSuchElementException("no such place");
        }
        return chargers.line[place];
    }

    public int mostServed() throws NoSuchElementException {
        int most = mostFromLargerSets();
        if (most == NO_SET) {
            throw new NoSuchElementException("no set keeps the limits");
        }
        return most;
    }

    public int mostByAll() throws NoSuchElementException {
        int most = mostOfAllSets();
        if (most == NO_SET) {
            throw new NoSuchElementException("no set keeps the limits");
        }
        return most;
    }

    public int heat(int node) throws IndexOutOfBoundsException, NoSuchElementException {
        checkNode(node);
        checkHasCable(node);
        return grid.heats[node];
    }

    public boolean isBlown(int node) throws IndexOutOfBoundsException, NoSuchElementException {
        checkNode(node);
        checkHasCable(node);
        return grid.blown[node];
    }

    public int minutes() {
        return minutesPassed;
    }

    public long charged() {
        return chargedSum;
    }

    public float fedShare() {
        return (float) feeding.fedCount / (float) grid.nodeCount;
    }

    public double meanVoltage() {
        workOutFlows();
        int sum = 0;
        for (int place = 0; place < feeding.fedCount; place++) {
            sum += flows.voltages[feeding.order[place]];
        }
        return (double) sum / (double) feeding.fedCount;
    }

    public double meanLeftOut() throws ArithmeticException {
        int sum = 0;
        int count = 0;
        for (int node = 0; node < grid.nodeCount; node++) {
            if (chargers.amperes[node] > 0) {
                sum += chargers.timesLeftOut[node];
                count++;
            }
        }
        if (count == 0) {
            throw new ArithmeticException("no charger of more than 0 amperes");
        }
        return (double) sum / (double) count;
    }

    public boolean isSound() {
        return voltagesAgree() && mostOfAllSets() == mostFromLargerSets() && feeding.tieThatCanFeed() == NO_TIE;
    }

    private void checkNode(int node) {
        if (node < 0 || node >= grid.nodeCount) {
            throw new IndexOutOfBoundsException("no such node");
        }
    }

    private void checkRange(int value, int least, int most) {
        if (value < least || value > most) {
            throw new IllegalArgumentException("out of range");
        }
    }

    private void checkRoomForLayer(int node) {
        if (roofs[node].layers >= MOST_LAYERS) {
            throw new IllegalStateException("4 layers were added");
        }
    }

    private void checkFed(int node) {
        if (!feeding.fed[node]) {
            throw new NoSuchElementException("the node is not fed");
        }
    }

    private void checkFedOverLine(int node) {
        if (node == 0) {
            throw new NoSuchElementException("no node feeds node 0");
        }
        checkFed(node);
    }

    private void checkHasCable(int node) {
        if (node == 0) {
            throw new NoSuchElementException("node 0 has no cable");
        }
    }

    private boolean countsAsServed(int node) {
        return feeding.fed[node] && isIn(chargers.served, node);
    }

    /** The currents without chargers are found once, as they stay the same while many sets of chargers are tried. */
    private void workOutOwnCurrents() {
        for (int node = 0; node < grid.nodeCount; node++) {
            ownCurrents[node] = loads[node] - roofs[node].currentFor(sun);
        }
    }

    private void workOutFlows() {
        workOutOwnCurrents();
        workOutFlowsWith(chargers.served);
    }

    private void workOutFlowsWith(int set) {
        flows.workOut(ownCurrents, chargers.amperes, set, base);
    }

    private boolean staysWithinLimitsWith(int set) {
        workOutFlowsWith(set);
        return flows.areWithinLimits();
    }

    /** Answers the number of fuses that blow. */
    private int letMinutePass() {
        workOutOwnCurrents();
        serveByTurn();
        countMinute();
        workOutFlowsWith(chargers.served);
        int blown = heatFuses();
        if (blown > 0) {
            feeding.workOut();
        }
        return blown;
    }

    private void serveByTurn() {
        chargers.lineUp(grid.nodeCount);
        int set = 0;
        for (int place = 0; place < chargers.lineLength; place++) {
            int node = chargers.line[place];
            int withNode = set | (1 << node);
            if (feeding.fed[node] && staysWithinLimitsWith(withNode)) {
                set = withNode;
            }
        }
        chargers.served = set;
    }

    private void countMinute() {
        for (int place = 0; place < chargers.lineLength; place++) {
            int node = chargers.line[place];
            if (isIn(chargers.served, node)) {
                chargedSum += chargers.amperes[node];
            } else {
                chargers.timesLeftOut[node]++;
            }
        }
        minutesPassed++;
    }

    private int heatFuses() {
        int blown = 0;
        for (int node = 1; node < grid.nodeCount; node++) {
            if (feeding.fed[node] && feeding.cables[node] > 0
                    && grid.heatFuse(feeding.cables[node], flows.carriedTo(node))) {
                blown++;
            }
        }
        return blown;
    }

    private int voltageAlongWay(int node) {
        int voltage = base;
        int at = node;
        for (int step = 0; step < MOST_NODES && at > 0; step++) {
            voltage -= drop(feeding.resistances[at], flowFoundAlone(at));
            at = feeding.feeders[at];
        }
        return voltage;
    }

    private int flowFoundAlone(int node) {
        int sum = 0;
        for (int other = 0; other < grid.nodeCount; other++) {
            if (feeding.fed[other] && feeding.hasOnWay(other, node)) {
                sum += netCurrent(other);
            }
        }
        return sum;
    }

    private int netCurrent(int node) {
        int current = loads[node] - roofs[node].currentFor(sun);
        return countsAsServed(node) ? current + chargers.amperes[node] : current;
    }

    private boolean voltagesAgree() {
        workOutFlows();
        for (int node = 0; node < grid.nodeCount; node++) {
            if (feeding.fed[node] && flows.voltages[node] != voltageAlongWay(node)) {
                return false;
            }
        }
        return true;
    }

    private int chargersToServe() {
        return chargers.setAbove0(grid.nodeCount) & feeding.fedSet();
    }

    /** More chargers can also take a cable back within its rating, so a set may do where a part of it does not. */
    private int mostFromLargerSets() {
        workOutOwnCurrents();
        int candidates = chargersToServe();
        int sets = 1 << grid.nodeCount;
        for (int size = Integer.bitCount(candidates); size >= 0; size--) {
            for (int set = 0; set < sets; set++) {
                if ((set & ~candidates) == 0 && Integer.bitCount(set) == size && staysWithinLimitsWith(set)) {
                    return size;
                }
            }
        }
        return NO_SET;
    }

    private int mostOfAllSets() {
        workOutOwnCurrents();
        int candidates = chargersToServe();
        int sets = 1 << grid.nodeCount;
        int most = NO_SET;
        for (int set = 0; set < sets; set++) {
            if ((set & ~candidates) == 0 && staysWithinLimitsWith(set)) {
                most = Math.max(most, Integer.bitCount(set));
            }
        }
        return most;
    }

    private static boolean isIn(int set, int node) {
        return (set >> node & 1) == 1;
    }

    private static int drop(int resistance, int flow) {
        return resistance * flow / 10;
    }

    /** What stands in the street: nodes, cables, fuses and ties. A cable and its fuse bear the number of their node. */
    private static final class Grid {
        private final int[] parents = new int[MOST_NODES];
        private final int[] resistances = new int[MOST_NODES];
        private final int[] ratings = new int[MOST_NODES];
        private final int[] heats = new int[MOST_NODES];
        private final boolean[] blown = new boolean[MOST_NODES];
        private final int[] tieNodes = new int[MOST_TIES];
        private final int[] tieOthers = new int[MOST_TIES];
        private final int[] tieResistances = new int[MOST_TIES];
        private int nodeCount = 1;
        private int tieCount = 0;

        /** Asks for room for the node. */
        private int putNode(int parent, int resistance, int rating) {
            int node = nodeCount;
            parents[node] = parent;
            resistances[node] = resistance;
            ratings[node] = rating;
            nodeCount++;
            return node;
        }

        /** Asks for room for the tie. */
        private int putTie(int node, int other, int resistance) {
            int tie = tieCount;
            tieNodes[tie] = node;
            tieOthers[tie] = other;
            tieResistances[tie] = resistance;
            tieCount++;
            return tie;
        }

        /** Answers whether the fuse blows. */
        private boolean heatFuse(int cable, int carried) {
            if (carried > ratings[cable]) {
                heats[cable] += carried - ratings[cable];
            } else {
                heats[cable] = Math.max(0, heats[cable] - COOLING);
            }
            blown[cable] = heats[cable] >= HEAT_THAT_BLOWS;
            return blown[cable];
        }
    }

    /**
     * Who feeds whom. Each number that is kept here is one of a node, 0 where there is none, so that it can be an
     * index at any time; a node fed over a tie has the cable 0, which no node has.
     */
    private static final class Feeding {
        private final Grid grid = new Grid();
        private final boolean[] fed = new boolean[MOST_NODES];
        private final int[] feeders = new int[MOST_NODES];
        private final int[] cables = new int[MOST_NODES];
        private final int[] resistances = new int[MOST_NODES];
        private final int[] order = new int[MOST_NODES];
        private final boolean[] closed = new boolean[MOST_TIES];
        private int fedCount = 1;

        private Feeding() {
            fed[0] = true;
        }

        private void workOut() {
            startAtTransformer();
            spreadOverCables(0);
            for (int round = 0; round < grid.tieCount; round++) {
                int tie = tieThatCanFeed();
                if (tie == NO_TIE) {
                    return;
                }
                int before = fedCount;
                close(tie);
                spreadOverCables(before);
            }
        }

        private void startAtTransformer() {
            for (int node = 1; node < MOST_NODES; node++) {
                fed[node] = false;
                feeders[node] = 0;
                cables[node] = 0;
                resistances[node] = 0;
            }
            for (int tie = 0; tie < MOST_TIES; tie++) {
                closed[tie] = false;
            }
            fedCount = 1;
        }

        /** Goes on from the nodes that have a place in the order from this one on; those before it have spread. */
        private void spreadOverCables(int from) {
            for (int place = from; place < grid.nodeCount && place < fedCount; place++) {
                spreadFrom(order[place]);
            }
        }

        private void spreadFrom(int node) {
            if (node > 0) {
                feedOverCable(grid.parents[node], node, node);
            }
            for (int child = node + 1; child < grid.nodeCount; child++) {
                if (grid.parents[child] == node) {
                    feedOverCable(child, node, child);
                }
            }
        }

        private void feedOverCable(int node, int feeder, int cable) {
            if (!grid.blown[cable] && !fed[node]) {
                feed(node, feeder, grid.resistances[cable]);
                cables[node] = cable;
            }
        }

        private int tieThatCanFeed() {
            for (int tie = 0; tie < grid.tieCount; tie++) {
                if (fed[grid.tieNodes[tie]] != fed[grid.tieOthers[tie]]) {
                    return tie;
                }
            }
            return NO_TIE;
        }

        private void close(int tie) {
            int node = grid.tieNodes[tie];
            int other = grid.tieOthers[tie];
            closed[tie] = true;
            if (fed[node]) {
                feed(other, node, grid.tieResistances[tie]);
            } else {
                feed(node, other, grid.tieResistances[tie]);
            }
        }

        private void feed(int node, int feeder, int resistance) {
            if (fedCount < MOST_NODES) {
                fed[node] = true;
                feeders[node] = feeder;
                resistances[node] = resistance;
                order[fedCount] = node;
                fedCount++;
            }
        }

        private int fedSet() {
            int set = 0;
            for (int place = 0; place < fedCount; place++) {
                set |= 1 << order[place];
            }
            return set;
        }

        private boolean hasOnWay(int node, int wanted) {
            int at = node;
            for (int step = 0; step < MOST_NODES && at > 0; step++) {
                if (at == wanted) {
                    return true;
                }
                at = feeders[at];
            }
            return at == wanted;
        }
    }

    /** The flows and voltages of the nodes that are fed, found for the whole net at once. */
    private static final class Flows {
        private final Feeding feeding = new Feeding();
        private final int[] amperes = new int[MOST_NODES];
        private final int[] voltages = new int[MOST_NODES];

        private void workOut(int[] ownCurrents, int[] charges, int served, int base) {
            for (int node = 0; node < MOST_NODES; node++) {
                amperes[node] = isIn(served, node) ? ownCurrents[node] + charges[node] : ownCurrents[node];
            }
            for (int place = feeding.fedCount - 1; place > 0; place--) {
                int node = feeding.order[place];
                amperes[feeding.feeders[node]] += amperes[node];
            }
            voltages[0] = base;
            for (int place = 1; place < feeding.fedCount; place++) {
                int node = feeding.order[place];
                voltages[node] = voltages[feeding.feeders[node]] - drop(feeding.resistances[node], amperes[node]);
            }
        }

        private int carriedTo(int node) {
            return Math.abs(amperes[node]);
        }

        private boolean areWithinLimits() {
            for (int place = 0; place < feeding.fedCount; place++) {
                int node = feeding.order[place];
                int cable = feeding.cables[node];
                if (voltages[node] < LEAST_VOLTAGE || cable > 0 && carriedTo(node) > feeding.grid.ratings[cable]) {
                    return false;
                }
            }
            return true;
        }
    }

    /** The chargers and their turns; a set of chargers has the bit of each one's node. */
    private static final class Chargers {
        private final int[] amperes = new int[MOST_NODES];
        private final int[] timesLeftOut = new int[MOST_NODES];
        private final int[] line = new int[MOST_NODES];
        private int lineLength = 0;
        private int served = 0;

        private void lineUp(int nodeCount) {
            lineLength = 0;
            for (int node = 0; node < nodeCount; node++) {
                if (amperes[node] > 0) {
                    enterLine(node);
                }
            }
        }

        /** The nodes enter by number, so that one with as many minutes left out stays behind a lower one. */
        private void enterLine(int node) {
            int place = lineLength;
            while (place > 0 && timesLeftOut[line[place - 1]] < timesLeftOut[node]) {
                line[place] = line[place - 1];
                place--;
            }
            line[place] = node;
            lineLength++;
        }

        private int setAbove0(int nodeCount) {
            int set = 0;
            for (int node = 0; node < nodeCount; node++) {
                if (amperes[node] > 0) {
                    set |= 1 << node;
                }
            }
            return set;
        }
    }

    /** A roof's curve: the number of layer 0 is the amperes at full sun, that of another one its cap or its shade. */
    private static final class Roof {
        private final boolean[] shades = new boolean[MOST_LAYERS];
        private final int[] numbers = new int[MOST_LAYERS];
        private int layers = 1;

        private void startWith(int amperes) {
            numbers[0] = amperes;
            layers = 1;
        }

        /** Asks for room for the layer; answers the number of layers. */
        private int putLayer(boolean shade, int number) {
            shades[layers] = shade;
            numbers[layers] = number;
            layers++;
            return layers;
        }

        private int currentFor(int sun) {
            int sunBelow = sun;
            int most = MOST_AMPERES;
            for (int layer = layers - 1; layer > 0; layer--) {
                if (!shades[layer]) {
                    most = Math.min(most, numbers[layer]);
                } else if (sunBelow < numbers[layer]) {
                    return 0;
                } else {
                    sunBelow -= numbers[layer];
                }
            }
            return Math.min(most, numbers[0] * sunBelow / 100);
        }
    }
}
