/** Nets to start from. Each is made anew, as a net is good for 512 calls only. */
final class Nets {
    private Nets() {
    }

    /** Nodes in one line behind the transformer, each cable of 10 with a rating of 100. */
    static Feederlight line(int nodes) {
        Feederlight net = new Feederlight();
        for (int node = 1; node <= nodes; node++) {
            net.addNode(node - 1, 10, 100);
        }
        return net;
    }

    /** Nodes right behind the transformer, each cable of 10 with a rating of 100. */
    static Feederlight star(int nodes) {
        Feederlight net = new Feederlight();
        for (int node = 1; node <= nodes; node++) {
            net.addNode(0, 10, 100);
        }
        return net;
    }

    /** Blows the fuse of a node with a rating of 100 by its own load; the load is 0 after it, and a minute passed. */
    static void blow(Feederlight net, int node) {
        net.setLoad(node, 200);
        net.minute();
        net.setLoad(node, 0);
        Check.due("isBlown(" + node + ") after 200 amperes over 100", net.isBlown(node), true);
    }

    /** A line of nodes 1 to 3, of which 2 and 3 are cut off: the fuse of node 2 is blown, and a minute passed. */
    static Feederlight cutOff() {
        Feederlight net = new Feederlight();
        net.addNode(0, 10, 400);
        net.addNode(1, 10, 100);
        net.addNode(2, 10, 100);
        blow(net, 2);
        return net;
    }

    /**
     * Node 1, whose fuse with a rating of 100 is blown, is fed by its child 2 over a cable with a rating of 50, and
     * that one over tie 0 from node 0; a minute passed.
     */
    static Feederlight fedByItsChild() {
        Feederlight net = new Feederlight();
        net.addNode(0, 10, 100);
        net.addNode(1, 10, 50);
        net.addTie(0, 2, 1);
        blow(net, 1);
        Check.due("feeder(1)", net.feeder(1), 2);
        return net;
    }

    /**
     * 6 nodes and 2 ties, with something of everything: the roof of node 2 has 3 layers, the fuse of node 5 is blown,
     * tie 0 is closed, and the fuse of node 4 is warm; of five chargers some are served and some have been left out.
     */
    static Feederlight busy() {
        Feederlight net = new Feederlight();
        net.addNode(0, 3, 100);
        net.addNode(1, 5, 60);
        net.addNode(1, 7, 40);
        net.addNode(0, 2, 30);
        net.addNode(4, 4, 20);
        net.addTie(3, 5, 6);
        net.addTie(2, 4, 9);
        net.setLoad(5, 120);
        net.minute();
        net.setLoad(5, 10);
        net.setLoad(2, 7);
        net.setRoof(2, 80);
        net.shadeRoof(2, 10);
        net.capRoof(2, 25);
        net.setSun(60);
        net.setBase(2310);
        int[] amperes = {20, 32, 40, 30, 0, 12};
        for (int node = 0; node < amperes.length; node++) {
            net.setCharger(node, amperes[node]);
        }
        net.pass(2);
        return net;
    }

    /** 12 nodes and 4 ties, so that there is no room for more; the roof of node 1 has 5 layers. */
    static Feederlight full() {
        Feederlight net = new Feederlight();
        for (int node = 1; node < 12; node++) {
            net.addNode(node / 3, 1 + node, 30 + 10 * node);
        }
        for (int tie = 0; tie < 4; tie++) {
            net.addTie(tie + 2, 11 - tie, 5 + tie);
        }
        fourLayersMore(net, 1);
        net.setSun(80);
        net.setCharger(0, 10);
        net.setCharger(11, 64);
        net.setLoad(7, 35);
        net.pass(2);
        return net;
    }

    /** A curve of 100 amperes with two caps and two shades on it. */
    static void fourLayersMore(Feederlight net, int node) {
        net.setRoof(node, 100);
        net.capRoof(node, 90);
        net.shadeRoof(node, 10);
        net.capRoof(node, 80);
        net.shadeRoof(node, 5);
    }
}
