/** Small networks that several tests begin with. */
final class Nets {
    private Nets() { }

    /** Node 1 makes all names known to node 0; the link joins their faces 0. */
    static NameNet pair(int store, int pending, int life) {
        NameNet net = new NameNet(store, pending, life);
        net.link(0, 0, 1, 0);
        net.announce(1, 0, true);
        Check.carry(net, 1, 0, 3);
        return net;
    }

    /** 0 - 1 - 2: faces 0 and 0, then 1 and 0. Node 2 makes all names known to the others. */
    static NameNet line(int store, int pending, int life) {
        NameNet net = new NameNet(store, pending, life);
        net.link(0, 0, 1, 0);
        net.link(1, 1, 2, 0);
        net.announce(2, 0, true);
        Check.carry(net, 2, 0, 3);
        Check.carry(net, 1, 0, 3);
        return net;
    }

    /** Faces 0 .. links - 1 of node 0 lead to the faces 0 of nodes 1 .. links; no routes. */
    static NameNet star(int links, int store, int pending, int life) {
        NameNet net = new NameNet(store, pending, life);
        for (int face = 0; face < links; face++) {
            net.link(0, face, face + 1, 0);
        }
        return net;
    }

    /** A node makes a name known over its face 0; no other notice stays on a wire of node 0. */
    static void tell(NameNet net, int node, int name) {
        net.announce(node, name, true);
        Check.carry(net, node, 0, 3);
        drop(net, 0);
    }

    /** What is on the wires of a node is lost. */
    static void drop(NameNet net, int node) {
        for (int face = 0; face < 4; face++) {
            for (int i = 0; i < 8 && net.alter(node, face, false); i++) { }
        }
    }

    /** Makes names of one component, /xaa .. /xbz, until there are as many names. */
    static void fillNames(NameNet net, int count) {
        int there = 1;
        while (net.parent(there) >= 0) {
            there++;
        }
        for (int i = 0; there + i < count; i++) {
            String text = "/x" + (char) ('a' + i / 26) + (char) ('a' + i % 26);
            Check.due("number of " + text, Check.name(net, text), there + i);
        }
        Check.due("no name " + count, net.parent(count), -1);
    }
}
