/** The boundaries of promises 5 link, 6 turn, 10 carry, 11 alter, 17 waiting and of LINK, WIRE. */
public final class LinkBoundsTest {
    private static final int[] NO_NODES = {Integer.MIN_VALUE, -1, 5, 6, Integer.MAX_VALUE};
    private static final int[] NO_FACES = {Integer.MIN_VALUE, -1, 4, 5, Integer.MAX_VALUE};

    public static void main(String[] args) {
        linkRefusesNodesThatAreNone();
        linkRefusesFacesThatAreNone();
        linkRefusesOneNode();
        linkRefusesAFaceThatHasALink();
        linkRefusesAFaceWhoseLinkIsDown();
        everyFaceCanHaveALink();
        aLinkIsUpAtFirst();
        turnRefusesFacesThatAreNone();
        turnRefusesAFaceWithoutALink();
        turnRefusesWhatIsSoAlready();
        turningDownLosesBothWires();
        turningUpLosesNothing();
        carryRefusesFacesThatAreNone();
        carryRefusesAnEmptyWire();
        aWireHasAtMostEightNotices();
        aWireHasAtMostEightInterests();
        aWireHasAtMostEightDatas();
        aWireHasAtMostEightNacks();
        aFullWireIsOneFacesAlone();
        whatIsSentWithoutALinkIsLost();
        whatIsSentOverALinkThatIsDownIsLost();
        alterRefusesFacesThatAreNone();
        alterRefusesAnEmptyWire();
        alterTwiceRefusesWhenEightAreThere();
        alterLosesTheLastOneOfAWire();
        alterTwiceMayBeAllThereIs();
        waitingRefusesNodesThatAreNone();
        waitingRefusesWhatsThatAreNone();
        Check.end();
    }

    private static void linkRefusesNodesThatAreNone() {
        Check.says("false if there are no such nodes or faces (0 .. 3)");
        NameNet net = new NameNet(1, 1, 1);
        for (int none : NO_NODES) {
            Check.due("node " + none, net.link(none, 0, 1, 0), false);
            Check.due("other node " + none, net.link(1, 0, none, 0), false);
            Check.due("both nodes " + none, net.link(none, 0, none, 1), false);
        }
        Check.due("nodes 0 and 4", net.link(0, 0, 4, 0), true);
    }

    private static void linkRefusesFacesThatAreNone() {
        Check.says("false if there are no such nodes or faces (0 .. 3)");
        NameNet net = new NameNet(1, 1, 1);
        for (int none : NO_FACES) {
            Check.due("face " + none, net.link(0, none, 1, 0), false);
            Check.due("other face " + none, net.link(0, 0, 1, none), false);
        }
        Check.due("faces 0 and 3", net.link(0, 0, 1, 3), true);
        Check.due("faces 3 and 0", net.link(0, 3, 1, 0), true);
    }

    private static void linkRefusesOneNode() {
        Check.says("both are one node");
        NameNet net = new NameNet(1, 1, 1);
        for (int node = 0; node < 5; node++) {
            Check.due("two faces of node " + node, net.link(node, 0, node, 1), false);
            Check.due("one face of node " + node, net.link(node, 2, node, 2), false);
            Check.due("face 0 has no link", net.turn(node, 0, false), false);
        }
    }

    private static void linkRefusesAFaceThatHasALink() {
        Check.says("or one of the faces has a link");
        NameNet net = new NameNet(1, 1, 1);
        net.link(0, 0, 1, 0);
        Check.due("the first", net.link(0, 0, 2, 0), false);
        Check.due("the second", net.link(2, 0, 1, 0), false);
        Check.due("both", net.link(0, 0, 1, 0), false);
        Check.due("both, from behind", net.link(1, 0, 0, 0), false);
        Check.due("the first, in the second's place", net.link(2, 0, 0, 0), false);
        Check.due("face 0 of node 2 has none still", net.turn(2, 0, false), false);
        Check.due("and can have one", net.link(2, 0, 3, 0), true);
    }

    private static void linkRefusesAFaceWhoseLinkIsDown() {
        Check.says("(Also one that is down; links stay.)");
        NameNet net = new NameNet(1, 1, 1);
        net.link(0, 0, 1, 0);
        net.turn(1, 0, false);
        Check.due("the first", net.link(0, 0, 2, 0), false);
        Check.due("the second", net.link(2, 0, 1, 0), false);
        Check.due("the same once more", net.link(0, 0, 1, 0), false);
        Check.due("it stays: it can go up", net.turn(0, 0, true), true);
        net.announce(0, 0, true);
        Check.carry(net, 0, 0, 3);
        Check.due("and leads to node 1 still", net.cost(1, 0, 0), 1);
    }

    /** Ten links take all twenty faces; turning one side of each turns its own other side. */
    private static void everyFaceCanHaveALink() {
        Check.says("A LINK joins a face (not 4) of a node to one of another node");
        NameNet net = new NameNet(1, 1, 1);
        for (int a = 0; a < 5; a++) {
            for (int b = a + 1; b < 5; b++) {
                Check.due("link", net.link(a, b - 1, b, a), true);
            }
        }
        for (int a = 0; a < 5; a++) {
            for (int b = a + 1; b < 5; b++) {
                Check.due("down", net.turn(a, b - 1, false), true);
                Check.due("down is so at the other side", net.turn(b, a, false), false);
                Check.due("up from the other side", net.turn(b, a, true), true);
            }
        }
    }

    private static void aLinkIsUpAtFirst() {
        Check.says("it is up (at first) or down");
        NameNet net = new NameNet(1, 1, 1);
        net.link(0, 0, 1, 0);
        Check.due("up is so already", net.turn(0, 0, true), false);
        Check.due("at the other side too", net.turn(1, 0, true), false);
        net.announce(0, 0, true);
        Check.due("what is sent is there", net.waiting(0, 2), 1);
    }

    private static void turnRefusesFacesThatAreNone() {
        Check.says("False if there is no such face (0 .. 3)");
        NameNet net = Nets.star(4, 1, 1, 1);
        for (boolean up : new boolean[] {false, true}) {
            for (int none : NO_NODES) {
                Check.due("node " + none, net.turn(none, 0, up), false);
            }
            for (int none : NO_FACES) {
                Check.due("face " + none, net.turn(0, none, up), false);
            }
        }
        Check.due("face 0", net.turn(0, 0, false), true);
        Check.due("face 3", net.turn(0, 3, false), true);
        Check.due("node 4", net.turn(4, 0, true), true);
    }

    private static void turnRefusesAFaceWithoutALink() {
        Check.says("it has no link");
        NameNet net = new NameNet(1, 1, 1);
        Check.due("down", net.turn(0, 0, false), false);
        Check.due("up", net.turn(0, 0, true), false);
        net.announce(0, 0, true);
        Check.due("nothing is sent there", net.waiting(0, 2), 0);
        net.link(0, 0, 1, 0);
        Check.due("a link is up at first all the same", net.turn(0, 0, true), false);
    }

    private static void turnRefusesWhatIsSoAlready() {
        Check.says("or that is so already");
        NameNet net = new NameNet(1, 1, 1);
        net.link(0, 2, 1, 3);
        net.announce(0, 0, true);
        Check.due("up, up", net.turn(0, 2, true), false);
        Check.due("what is on the wire stays", net.waiting(0, 4), 1);
        Check.due("down", net.turn(0, 2, false), true);
        Check.due("down, down", net.turn(0, 2, false), false);
        Check.due("down, down at the other side", net.turn(1, 3, false), false);
        Check.due("up from the other side", net.turn(1, 3, true), true);
        Check.due("up, up once more", net.turn(0, 2, true), false);
    }

    private static void turningDownLosesBothWires() {
        Check.says("when it goes down, what is on its two wires is lost");
        for (int side = 0; side <= 1; side++) {
            NameNet net = Nets.star(2, 1, 1, 1);
            for (int i = 0; i < 8; i++) {
                net.announce(0, 0, true);
                net.announce(1, 0, true);
            }
            Check.due("down", net.turn(side, 0, false), true);
            Check.due("the one wire", net.waiting(0, 2), 0);
            Check.due("the other wire", net.waiting(1, 2), 0);
            Check.due("not the wire of another link", net.waiting(0, 3), 8);
            net.turn(side, 0, true);
            Check.due("nothing comes back", net.carry(0, 0), -1);
            Check.due("nor at the other side", net.carry(1, 0), -1);
            net.announce(0, 0, true);
            Check.due("room again", net.waiting(0, 2), 1);
        }
    }

    private static void turningUpLosesNothing() {
        Check.says("Turns the link of a face up or down: true; when it goes down");
        NameNet net = Nets.star(2, 1, 1, 1);
        net.turn(0, 0, false);
        net.announce(0, 0, true);
        Check.due("up", net.turn(0, 0, true), true);
        Check.due("the wire of another link", net.waiting(0, 3), 1);
        Check.due("lost when it was sent", net.waiting(0, 2), 0);
    }

    private static void carryRefusesFacesThatAreNone() {
        Check.says("NONE if there is no such face (0 .. 3)");
        NameNet net = Nets.star(4, 1, 1, 1);
        net.announce(0, 0, true);
        net.announce(4, 0, true);
        for (int none : NO_NODES) {
            Check.due("node " + none, net.carry(none, 0), -1);
        }
        for (int none : NO_FACES) {
            Check.due("face " + none, net.carry(0, none), -1);
        }
        Check.due("face 0", net.carry(0, 0), 3);
        Check.due("face 3", net.carry(0, 3), 3);
        Check.due("node 4", net.carry(4, 0), 3);
    }

    private static void carryRefusesAnEmptyWire() {
        Check.says("or nothing on its wire");
        NameNet net = new NameNet(1, 1, 1);
        Check.due("no link", net.carry(0, 0), -1);
        net.link(0, 0, 1, 0);
        Check.due("nothing was sent", net.carry(0, 0), -1);
        net.announce(0, 0, true);
        Check.due("nothing from the other side", net.carry(1, 0), -1);
        Check.due("one", net.carry(0, 0), 3);
        Check.due("none is left", net.carry(0, 0), -1);
    }

    /** The ninth is lost, not the first: what comes is the serials 1 .. 8. */
    private static void aWireHasAtMostEightNotices() {
        Check.says("at most eight. To send a packet out of a face: it comes to the end of its");
        NameNet net = new NameNet(1, 1, 1);
        net.link(0, 0, 1, 0);
        for (char c = 'a'; c <= 'i'; c++) {
            int name = Check.make(net, "/" + c);
            net.announce(0, name, true);
            Check.due("on the wire", net.waiting(0, 2), Math.min(name, 8));
        }
        for (int name = 1; name <= 8; name++) {
            Check.carry(net, 0, 0, 3);
            Check.due("heard in the order sent", net.cost(1, name, 0), 1);
            Check.due("the next not yet", net.cost(1, name + 1, 0), -1);
        }
        Check.due("the ninth was lost", net.carry(0, 0), -1);
        net.announce(0, 9, true);
        Check.due("there is room again", net.waiting(0, 2), 1);
    }

    /** Two are asked for by node 0, the rest of the wire is full with copies of the first. */
    private static void aWireHasAtMostEightInterests() {
        Check.says("eight are there; then it is lost");
        NameNet net = Nets.pair(0, 6, 9);
        int a = Check.make(net, "/a");
        int b = Check.make(net, "/b");
        net.ask(0, a, 0, 9);
        for (int i = 0; i < 7; i++) {
            Check.due("a copy", net.alter(0, 0, true), true);
        }
        net.ask(0, b, 0, 9);
        Check.due("the ninth is lost", net.waiting(0, 2), 8);
        Check.due("its entry is there all the same", net.waiting(0, 0), 2);
        Check.due("its request waits", net.request(1, 0), 0);
        for (int i = 0; i < 8; i++) {
            Check.carry(net, 0, 0, 0);
            Check.carry(net, 1, 0, 2);
        }
        Check.due("/a is refused", net.request(0, 0), 2);
        Check.due("/b did not come to node 1", net.request(1, 0), 0);
    }

    private static void aWireHasAtMostEightDatas() {
        Check.says("eight are there; then it is lost");
        NameNet net = Nets.pair(0, 6, 9);
        int a = Check.make(net, "/a");
        net.publish(1, a, 7, 0);
        net.ask(0, a, 0, 9);
        for (int i = 1; i <= 8; i++) {
            net.announce(1, 0, true);
        }
        Check.carry(net, 0, 0, 0);
        Check.due("the ninth is lost", net.waiting(1, 2), 8);
        for (int i = 0; i < 8; i++) {
            Check.carry(net, 1, 0, 3);
        }
        Check.due("no data behind them", net.carry(1, 0), -1);
        Check.request(net, 0, 0, -1, 0);
    }

    private static void aWireHasAtMostEightNacks() {
        Check.says("eight are there; then it is lost");
        NameNet net = Nets.pair(0, 6, 9);
        net.ask(0, 0, 0, 9);
        for (int i = 1; i <= 8; i++) {
            net.announce(1, 0, true);
        }
        Check.carry(net, 0, 0, 0);
        Check.due("the ninth is lost", net.waiting(1, 2), 8);
        for (int i = 0; i < 8; i++) {
            Check.carry(net, 1, 0, 3);
        }
        Check.due("no nack behind them", net.carry(1, 0), -1);
        Check.due("the request waits", net.request(0, 0), 0);
    }

    private static void aFullWireIsOneFacesAlone() {
        Check.says("For each of the two faces there is a WIRE");
        NameNet net = Nets.star(3, 1, 1, 1);
        for (int i = 0; i < 8; i++) {
            net.announce(0, 0, true);
        }
        for (int face = 0; face < 3; face += 2) {
            Check.carry(net, 0, face, 3);
        }
        net.announce(0, 0, true);
        Check.due("face 0", net.waiting(0, 2), 8);
        Check.due("face 1 was full", net.waiting(0, 3), 8);
        Check.due("face 2", net.waiting(0, 4), 8);
        net.announce(1, 0, true);
        Check.due("the other side of a full wire", net.waiting(1, 2), 1);
    }

    private static void whatIsSentWithoutALinkIsLost() {
        Check.says("unless the face has no link");
        NameNet net = new NameNet(1, 1, 1);
        net.announce(0, 0, true);
        for (int what = 2; what <= 5; what++) {
            Check.due("wire " + what, net.waiting(0, what), 0);
        }
        net.link(0, 0, 1, 0);
        Check.due("nothing comes when there is one", net.carry(0, 0), -1);
    }

    /** The answers to an interest find the link down: they are lost, and the entry is gone. */
    private static void whatIsSentOverALinkThatIsDownIsLost() {
        Check.says("that is down");
        NameNet net = Nets.line(0, 6, 9);
        int a = Check.make(net, "/a");
        int b = Check.make(net, "/b");
        net.publish(2, a, 7, 0);
        net.ask(0, a, 0, 9);
        net.ask(0, b, 0, 9);
        Check.carry(net, 0, 0, 0);
        Check.carry(net, 0, 0, 0);
        Check.carry(net, 1, 1, 0);
        Check.carry(net, 1, 1, 0);
        net.turn(0, 0, false);
        Check.carry(net, 2, 0, 1);
        Check.carry(net, 2, 0, 2);
        net.announce(1, 0, true);
        Check.due("a data, a nack, a notice", net.waiting(1, 2), 0);
        Check.due("the entries are gone", net.waiting(1, 0), 0);
        net.turn(0, 0, true);
        Check.due("nothing when it is up again", net.carry(1, 0), -1);
        Check.due("/a waits", net.request(0, 0), 0);
        Check.due("/b waits", net.request(1, 0), 0);
    }

    private static void alterRefusesFacesThatAreNone() {
        Check.says("False if there is no such face (0 .. 3), nothing is on its wire");
        NameNet net = Nets.star(4, 1, 1, 1);
        net.announce(0, 0, true);
        net.announce(4, 0, true);
        for (boolean twice : new boolean[] {false, true}) {
            for (int none : NO_NODES) {
                Check.due("node " + none, net.alter(none, 0, twice), false);
            }
            for (int none : NO_FACES) {
                Check.due("face " + none, net.alter(0, none, twice), false);
            }
        }
        Check.due("face 0", net.alter(0, 0, true), true);
        Check.due("face 3", net.alter(0, 3, true), true);
        Check.due("node 4", net.alter(4, 0, false), true);
        Check.due("face 0 has two", net.waiting(0, 2), 2);
        Check.due("face 1 has one", net.waiting(0, 3), 1);
        Check.due("face 3 has two", net.waiting(0, 5), 2);
        Check.due("node 4 has none", net.waiting(4, 2), 0);
    }

    private static void alterRefusesAnEmptyWire() {
        Check.says("nothing is on its wire");
        NameNet net = new NameNet(1, 1, 1);
        for (boolean twice : new boolean[] {false, true}) {
            Check.due("no link", net.alter(0, 1, twice), false);
        }
        net.link(0, 0, 1, 0);
        for (boolean twice : new boolean[] {false, true}) {
            Check.due("nothing was sent", net.alter(0, 0, twice), false);
        }
        net.announce(0, 0, true);
        Check.carry(net, 0, 0, 3);
        for (boolean twice : new boolean[] {false, true}) {
            Check.due("it came already", net.alter(0, 0, twice), false);
            Check.due("not from the other side", net.alter(1, 0, twice), false);
        }
        Check.due("still nothing", net.waiting(0, 2), 0);
    }

    private static void alterTwiceRefusesWhenEightAreThere() {
        Check.says("or twice and eight are");
        NameNet net = new NameNet(1, 1, 1);
        net.link(0, 0, 1, 0);
        net.announce(0, 0, true);
        for (int there = 1; there < 8; there++) {
            Check.due("twice with " + there, net.alter(0, 0, true), true);
            Check.due("one more", net.waiting(0, 2), there + 1);
        }
        Check.due("twice with eight", net.alter(0, 0, true), false);
        Check.due("eight are there", net.waiting(0, 2), 8);
        Check.due("lost with eight", net.alter(0, 0, false), true);
        Check.due("seven are there", net.waiting(0, 2), 7);
        Check.due("twice with seven", net.alter(0, 0, true), true);
    }

    private static void alterLosesTheLastOneOfAWire() {
        Check.says("The first packet on the wire of a face is lost");
        NameNet net = new NameNet(1, 1, 1);
        net.link(0, 0, 1, 0);
        net.announce(0, 0, true);
        Check.due("lost", net.alter(0, 0, false), true);
        Check.due("none is left", net.waiting(0, 2), 0);
        Check.due("nothing comes", net.carry(0, 0), -1);
        Check.due("nothing was heard", net.cost(1, 0, 0), -1);
    }

    /** The first stays where it is; its copy is behind all others, and is the same packet. */
    private static void alterTwiceMayBeAllThereIs() {
        Check.says("or (twice) comes once more to the end of the wire");
        NameNet net = new NameNet(1, 1, 1);
        net.link(0, 0, 1, 0);
        int a = Check.make(net, "/a");
        net.announce(0, 0, true);
        Check.due("one", net.alter(0, 0, true), true);
        Check.carry(net, 0, 0, 3);
        Check.carry(net, 0, 0, 3);
        Check.due("no third", net.carry(0, 0), -1);
        net.announce(0, 0, false);
        net.announce(0, a, true);
        Check.due("the first of two", net.alter(0, 0, true), true);
        Check.carry(net, 0, 0, 3);
        Check.due("the first comes first", net.cost(1, 0, 0), -1);
        Check.due("the second is second", net.cost(1, a, 0), -1);
        Check.carry(net, 0, 0, 3);
        Check.due("the second", net.cost(1, a, 0), 1);
        Check.carry(net, 0, 0, 3);
        Check.due("no fourth", net.carry(0, 0), -1);
    }

    private static void waitingRefusesNodesThatAreNone() {
        Check.says("NONE if there is no such node or what");
        NameNet net = new NameNet(1, 1, 1);
        for (int none : NO_NODES) {
            for (int what = 0; what <= 5; what++) {
                Check.due("node " + none + ", what " + what, net.waiting(none, what), -1);
            }
        }
        Check.due("node 0", net.waiting(0, 0), 0);
        Check.due("node 4", net.waiting(4, 5), 0);
    }

    private static void waitingRefusesWhatsThatAreNone() {
        Check.says("packets are on the wire of face 0 .. 3 (2 .. 5). NONE if there is no such");
        NameNet net = Nets.star(4, 1, 1, 1);
        for (int face = 0; face < 4; face++) {
            net.announce(0, 0, true);
            for (int i = 0; i < face; i++) {
                net.alter(0, face, true);
            }
        }
        Check.due("what -1", net.waiting(0, -1), -1);
        Check.due("what 6", net.waiting(0, 6), -1);
        Check.due("the least what", net.waiting(0, Integer.MIN_VALUE), -1);
        Check.due("the greatest what", net.waiting(0, Integer.MAX_VALUE), -1);
        for (int face = 0; face < 4; face++) {
            Check.due("wire of face " + face, net.waiting(0, 2 + face), 4 + face);
        }
    }
}
