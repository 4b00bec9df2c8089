/** Promises 7 announce and 16 cost, and how notices spread (10 carry). */
public final class RoutesTest {
    public static void main(String[] args) {
        promise7CountsSerials();
        promise7Refuses();
        promise7HasRoomForTenRoutes();
        promise7SendsOutOfAllFaces();
        promise10NewerNoticesTakeTheRouteOver();
        promise10OlderNoticesAreNothing();
        promise10CheaperNoticesAreToldFurther();
        promise10DearerNoticesAreNotToldFurther();
        promise10TheOriginHearsNothing();
        promise10ARouteWithoutCostsKeepsItsSerial();
        promise16IsTheLeastOfAllOrigins();
        promise16RefusesWrongArguments();
        Check.end();
    }

    private static void promise7CountsSerials() {
        NameNet net = new NameNet(1, 1, 1);
        int a = Check.make(net, "/a");
        Check.due("the first", net.announce(0, a, true), 1);
        Check.due("on again", net.announce(0, a, true), 2);
        Check.due("cost of the app", net.cost(0, a, 4), 0);
        Check.due("off", net.announce(0, a, false), 3);
        Check.due("no cost of the app", net.cost(0, a, 4), -1);
        Check.due("on once more", net.announce(0, a, true), 4);
        Check.due("another name", net.announce(0, 0, true), 1);
        Check.due("another node", net.announce(1, a, true), 1);
        Check.due("no cost for a face", net.cost(0, a, 0), -1);
    }

    private static void promise7Refuses() {
        NameNet net = new NameNet(1, 1, 1);
        int a = Check.make(net, "/a");
        Check.due("node -1", net.announce(-1, a, true), -1);
        Check.due("node 5", net.announce(5, a, false), -1);
        Check.due("name -1", net.announce(0, -1, true), -1);
        Check.due("name 2", net.announce(0, 2, false), -1);
        Check.due("off without a route", net.announce(0, a, false), -2);
        Check.due("on", net.announce(0, a, true), 1);
        Check.due("off", net.announce(0, a, false), 2);
        Check.due("off again", net.announce(0, a, false), -2);
        Check.due("the serial is as it was", net.announce(0, a, true), 3);
        net.link(0, 0, 1, 0);
        net.announce(0, a, true);
        Check.carry(net, 0, 0, 3);
        Check.due("a heard route is not the node's own", net.announce(1, a, false), -2);
    }

    private static void promise7HasRoomForTenRoutes() {
        NameNet net = new NameNet(1, 1, 1);
        net.link(0, 0, 1, 0);
        for (char c = 'a'; c <= 'l'; c++) {
            Check.make(net, "/" + c);
        }
        for (int name = 1; name <= 10; name++) {
            Check.due("route " + name, net.announce(0, name, true), 1);
            Check.carry(net, 0, 0, 3);
        }
        Check.due("the eleventh", net.announce(0, 11, true), -3);
        Check.due("it has no cost", net.cost(0, 11, 4), -1);
        Check.due("nothing was sent", net.waiting(0, 2), 0);
        Check.due("off without a route", net.announce(0, 11, false), -2);
        Check.due("one that is there", net.announce(0, 10, false), 2);
        Check.due("a route without a cost counts", net.announce(0, 11, true), -3);
        Check.due("it can be on again", net.announce(0, 10, true), 3);
        for (int name = 3; name <= 12; name++) {
            Check.due("heard routes do not count", net.announce(1, name, true), 1);
        }
        Check.due("the eleventh there", net.announce(1, 1, true), -3);
    }

    private static void promise7SendsOutOfAllFaces() {
        NameNet net = new NameNet(1, 1, 1);
        for (int face = 0; face < 4; face++) {
            net.link(0, face, face + 1, face);
        }
        int a = Check.make(net, "/a");
        net.announce(0, a, true);
        for (int face = 0; face < 4; face++) {
            Check.carry(net, 0, face, 3);
            Check.due("heard", net.cost(face + 1, a, face), 1);
        }
        net.announce(0, a, false);
        for (int face = 0; face < 4; face++) {
            Check.carry(net, 0, face, 3);
            Check.due("heard that it is off", net.cost(face + 1, a, face), -1);
        }
    }

    /** Nodes 0, 1, 2, 3 in a ring; what node 0 announces comes to node 2 from two sides. */
    private static NameNet ring() {
        NameNet net = new NameNet(1, 1, 1);
        net.link(0, 0, 1, 0);
        net.link(1, 1, 2, 0);
        net.link(2, 1, 3, 0);
        net.link(3, 1, 0, 1);
        Check.make(net, "/a");
        return net;
    }

    private static void promise10NewerNoticesTakeTheRouteOver() {
        NameNet net = ring();
        net.announce(0, 1, true);
        Check.carry(net, 0, 0, 3);
        Check.carry(net, 1, 1, 3);
        Check.carry(net, 0, 1, 3);
        Check.due("told out of the other face", net.waiting(3, 2), 1);
        Check.carry(net, 3, 0, 3);
        Check.due("cost at one side", net.cost(2, 1, 0), 2);
        Check.due("cost at the other side", net.cost(2, 1, 1), 2);
        net.announce(0, 1, true);
        Check.carry(net, 0, 0, 3);
        Check.due("not told out of the face where it came", net.waiting(1, 2), 0);
        Check.due("told though the cost is the same", net.waiting(1, 3), 1);
        Check.carry(net, 1, 1, 3);
        Check.due("the newer cost", net.cost(2, 1, 0), 2);
        Check.due("the older costs are gone", net.cost(2, 1, 1), -1);
        net.announce(0, 1, false);
        Check.carry(net, 0, 0, 3);
        Check.due("gone at node 1", net.cost(1, 1, 0), -1);
        Check.carry(net, 1, 1, 3);
        Check.due("gone at node 2", net.cost(2, 1, 0), -1);
        Check.due("and told on: the old notice and this one", net.waiting(2, 3), 3);
    }

    private static void promise10OlderNoticesAreNothing() {
        NameNet net = ring();
        net.announce(0, 1, true);
        net.announce(0, 1, false);
        net.alter(0, 0, true);
        net.alter(0, 0, false);
        Check.carry(net, 0, 0, 3);
        Check.due("off", net.cost(1, 1, 0), -1);
        Check.due("told", net.waiting(1, 3), 1);
        Check.carry(net, 0, 0, 3);
        Check.due("the older one is nothing", net.cost(1, 1, 0), -1);
        Check.due("nor told", net.waiting(1, 3), 1);
    }

    /** Node 2 hears the long way first: cost 4 by face 2, then 2 by face 0. */
    private static void promise10CheaperNoticesAreToldFurther() {
        NameNet net = new NameNet(1, 1, 1);
        net.link(0, 0, 1, 0);
        net.link(1, 1, 2, 0);
        net.link(0, 1, 3, 0);
        net.link(3, 1, 1, 2);
        net.link(2, 3, 4, 0);
        int a = Check.make(net, "/a");
        net.announce(0, a, true);
        Check.carry(net, 0, 1, 3);
        Check.carry(net, 3, 1, 3);
        Check.carry(net, 1, 1, 3);
        Check.carry(net, 2, 3, 3);
        Check.due("the long way", net.cost(4, a, 0), 4);
        Check.carry(net, 0, 0, 3);
        Check.due("both at node 1", net.cost(1, a, 2), 2);
        Check.due("both at node 1, the cheaper", net.cost(1, a, 0), 1);
        Check.due("told out of face 2, though that has a cost", net.waiting(1, 4), 1);
        Check.due("not told out of face 0 by it", net.waiting(1, 2), 1);
        Check.carry(net, 1, 1, 3);
        Check.due("cheaper on the same face", net.cost(2, a, 0), 2);
        Check.carry(net, 2, 3, 3);
        Check.due("the short way", net.cost(4, a, 0), 3);
    }

    private static void promise10DearerNoticesAreNotToldFurther() {
        NameNet net = ring();
        net.announce(0, 1, true);
        net.alter(0, 0, true);
        Check.carry(net, 0, 0, 3);
        Check.carry(net, 0, 0, 3);
        Check.due("the same once more is not told", net.waiting(1, 3), 1);
        Check.carry(net, 1, 1, 3);
        Check.carry(net, 2, 1, 3);
        Check.due("node 3 by the long way", net.cost(3, 1, 0), 3);
        Check.due("node 3 tells it", net.waiting(3, 3), 1);
        Check.carry(net, 0, 1, 3);
        Check.due("node 3 by the short way", net.cost(3, 1, 1), 1);
        Check.due("node 3 tells it back", net.waiting(3, 2), 1);
        Check.carry(net, 3, 0, 3);
        Check.due("as dear at node 2", net.cost(2, 1, 1), 2);
        Check.due("not told by node 2", net.waiting(2, 2), 0);
    }

    private static void promise10TheOriginHearsNothing() {
        NameNet net = ring();
        net.announce(0, 1, true);
        Check.carry(net, 0, 0, 3);
        Check.carry(net, 1, 1, 3);
        Check.carry(net, 2, 1, 3);
        Check.carry(net, 3, 1, 3);
        Check.due("no cost of a face", net.cost(0, 1, 1), -1);
        Check.due("cost of the app", net.cost(0, 1, 4), 0);
        Check.due("nothing told", net.waiting(0, 2), 0);
    }

    private static void promise10ARouteWithoutCostsKeepsItsSerial() {
        NameNet net = new NameNet(1, 1, 1);
        net.link(0, 0, 1, 0);
        net.link(0, 1, 1, 1);
        int a = Check.make(net, "/a");
        net.announce(0, a, true);
        net.alter(0, 0, false);
        net.announce(0, a, false);
        Check.carry(net, 0, 0, 3);
        Check.carry(net, 0, 1, 3);
        Check.due("the older notice on the other link", net.cost(1, a, 1), -1);
        Check.carry(net, 0, 1, 3);
        Check.due("the same notice on the other link", net.cost(1, a, 1), -1);
        Check.due("99 was told out of the other face, once", net.waiting(1, 3), 1);
        Check.due("and nothing out of the first", net.waiting(1, 2), 0);
    }

    private static void promise16IsTheLeastOfAllOrigins() {
        NameNet net = new NameNet(1, 1, 1);
        net.link(0, 0, 1, 0);
        net.link(1, 1, 2, 0);
        int a = Check.make(net, "/a");
        int b = Check.make(net, "/a/b");
        net.announce(2, a, true);
        Check.carry(net, 2, 0, 3);
        Check.carry(net, 1, 0, 3);
        Check.due("from node 2", net.cost(0, a, 0), 2);
        net.announce(1, a, true);
        Check.carry(net, 1, 0, 3);
        Check.due("from node 1 too", net.cost(0, a, 0), 1);
        net.announce(0, a, true);
        Check.due("the face, not the app", net.cost(0, a, 0), 1);
        Check.due("the app", net.cost(0, a, 4), 0);
        net.announce(1, a, false);
        Check.carry(net, 1, 0, 3);
        Check.due("from node 2 alone", net.cost(0, a, 0), 2);
        Check.due("a longer name has no cost of its own", net.cost(0, b, 0), -1);
        Check.due("a shorter one too", net.cost(0, 0, 0), -1);
    }

    private static void promise16RefusesWrongArguments() {
        NameNet net = new NameNet(1, 1, 1);
        net.announce(0, 0, true);
        Check.due("node -1", net.cost(-1, 0, 4), -1);
        Check.due("node 5", net.cost(5, 0, 4), -1);
        Check.due("name -1", net.cost(0, -1, 4), -1);
        Check.due("name 1", net.cost(0, 1, 4), -1);
        Check.due("face -1", net.cost(0, 0, -1), -1);
        Check.due("face 5", net.cost(0, 0, 5), -1);
        Check.due("as it is", net.cost(0, 0, 4), 0);
    }
}
