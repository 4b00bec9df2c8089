/** Promises 5 link, 6 turn, 10 carry, 11 alter, and of 17 waiting the wires. */
public final class LinksTest {
    public static void main(String[] args) {
        promise5JoinsFreeFacesOfTwoNodes();
        promise5RefusesAFaceWithALinkThatIsDown();
        promise6TurnsBothSides();
        promise6LosesWhatIsOnBothWires();
        promise6RefusesWrongFaces();
        promise10BringsPacketsInTheirOrder();
        promise10RefusesWrongFaces();
        promise11LosesTheFirst();
        promise11DoublesTheFirst();
        promise11RefusesWrongFaces();
        promise17CountsWires();
        Check.end();
    }

    private static void promise5JoinsFreeFacesOfTwoNodes() {
        NameNet net = new NameNet(1, 1, 1);
        Check.due("node -1", net.link(-1, 0, 1, 0), false);
        Check.due("node 5", net.link(5, 0, 1, 0), false);
        Check.due("other node -1", net.link(0, 0, -1, 0), false);
        Check.due("other node 5", net.link(0, 0, 5, 0), false);
        Check.due("face -1", net.link(0, -1, 1, 0), false);
        Check.due("face 4", net.link(0, 4, 1, 0), false);
        Check.due("other face -1", net.link(0, 0, 1, -1), false);
        Check.due("other face 4", net.link(0, 0, 1, 4), false);
        Check.due("one node", net.link(2, 0, 2, 1), false);
        Check.due("one face", net.link(2, 0, 2, 0), false);
        Check.due("faces that are free still", net.link(0, 0, 1, 0), true);
        Check.due("the same link", net.link(0, 0, 1, 0), false);
        Check.due("the same link from behind", net.link(1, 0, 0, 0), false);
        Check.due("the first face has a link", net.link(0, 0, 4, 3), false);
        Check.due("the second face has a link", net.link(4, 3, 1, 0), false);
        Check.due("a second link of the nodes", net.link(0, 3, 1, 3), true);
        Check.due("faces that were refused before", net.link(4, 3, 2, 0), true);
    }

    private static void promise5RefusesAFaceWithALinkThatIsDown() {
        NameNet net = new NameNet(1, 1, 1);
        net.link(0, 0, 1, 0);
        net.turn(0, 0, false);
        Check.due("the face", net.link(0, 0, 2, 0), false);
        Check.due("the other face", net.link(2, 0, 1, 0), false);
    }

    private static void promise6TurnsBothSides() {
        NameNet net = new NameNet(1, 1, 1);
        net.link(0, 1, 1, 2);
        Check.due("up is so already", net.turn(0, 1, true), false);
        Check.due("down", net.turn(0, 1, false), true);
        Check.due("down is so already", net.turn(0, 1, false), false);
        Check.due("at the other side too", net.turn(1, 2, false), false);
        net.announce(0, 0, true);
        Check.due("nothing is sent when it is down", net.waiting(0, 3), 0);
        net.announce(1, 0, true);
        Check.due("nor at the other side", net.waiting(1, 4), 0);
        Check.due("up from the other side", net.turn(1, 2, true), true);
        Check.due("up is so already, here", net.turn(0, 1, true), false);
        net.announce(0, 0, true);
        Check.due("sent when it is up again", net.waiting(0, 3), 1);
    }

    private static void promise6LosesWhatIsOnBothWires() {
        NameNet net = new NameNet(1, 1, 1);
        net.link(0, 0, 1, 0);
        net.link(0, 1, 2, 0);
        net.announce(0, 0, true);
        net.announce(1, 0, true);
        Check.due("on the wire", net.waiting(0, 2), 1);
        Check.due("on the other wire", net.waiting(1, 2), 1);
        net.turn(0, 0, false);
        Check.due("lost", net.waiting(0, 2), 0);
        Check.due("lost at the other side", net.waiting(1, 2), 0);
        Check.due("not on another link", net.waiting(0, 3), 1);
        Check.carry(net, 0, 0, -1);
        net.turn(0, 0, true);
        Check.due("it does not come back", net.waiting(0, 2), 0);
        Check.carry(net, 1, 0, -1);
    }

    private static void promise6RefusesWrongFaces() {
        NameNet net = new NameNet(1, 1, 1);
        net.link(0, 0, 1, 0);
        Check.due("no link", net.turn(0, 1, false), false);
        Check.due("no link, up", net.turn(0, 1, true), false);
        Check.due("face 4", net.turn(0, 4, false), false);
        Check.due("face -1", net.turn(0, -1, false), false);
        Check.due("node -1", net.turn(-1, 0, false), false);
        Check.due("node 5", net.turn(5, 0, false), false);
    }

    /** Each kind of packet once, told by carry; the notices come in the order of their serials. */
    private static void promise10BringsPacketsInTheirOrder() {
        NameNet net = new NameNet(0, 6, 9);
        net.link(0, 0, 1, 0);
        int a = Check.make(net, "/a");
        int b = Check.make(net, "/b");
        net.announce(1, a, true);
        net.announce(1, b, true);
        Check.carry(net, 1, 0, 3);
        Check.due("the first notice was heard", net.cost(0, a, 0), 1);
        Check.due("the second not yet", net.cost(0, b, 0), -1);
        Check.carry(net, 1, 0, 3);
        Check.due("the second notice was heard", net.cost(0, b, 0), 1);
        net.publish(1, a, 5, 0);
        net.ask(0, b, 0, 9);
        net.ask(0, a, 0, 9);
        Check.due("two interests", net.waiting(0, 2), 2);
        Check.carry(net, 0, 0, 0);
        Check.carry(net, 0, 0, 0);
        Check.carry(net, 0, 0, -1);
        Check.carry(net, 1, 0, 2);
        Check.request(net, 0, 2, -1, 0);
        Check.request(net, 1, 0, -1, 0);
        Check.carry(net, 1, 0, 1);
        Check.request(net, 1, 1, a, 5);
        Check.carry(net, 1, 0, -1);
    }

    private static void promise10RefusesWrongFaces() {
        NameNet net = new NameNet(1, 1, 1);
        net.link(0, 0, 1, 0);
        net.announce(0, 0, true);
        Check.carry(net, -1, 0, -1);
        Check.carry(net, 5, 0, -1);
        Check.carry(net, 0, -1, -1);
        Check.carry(net, 0, 4, -1);
        Check.carry(net, 0, 1, -1);
        Check.carry(net, 1, 0, -1);
        Check.carry(net, 0, 0, 3);
    }

    private static void promise11LosesTheFirst() {
        NameNet net = new NameNet(1, 1, 1);
        net.link(0, 0, 1, 0);
        int a = Check.make(net, "/a");
        int b = Check.make(net, "/b");
        net.announce(0, a, true);
        net.announce(0, b, true);
        Check.due("lost", net.alter(0, 0, false), true);
        Check.due("one is left", net.waiting(0, 2), 1);
        Check.carry(net, 0, 0, 3);
        Check.due("the first did not come", net.cost(1, a, 0), -1);
        Check.due("the second came", net.cost(1, b, 0), 1);
    }

    private static void promise11DoublesTheFirst() {
        NameNet net = new NameNet(1, 1, 1);
        net.link(0, 0, 1, 0);
        int a = Check.make(net, "/a");
        int b = Check.make(net, "/b");
        net.announce(0, a, true);
        net.announce(0, b, true);
        Check.due("twice", net.alter(0, 0, true), true);
        Check.due("three are there", net.waiting(0, 2), 3);
        net.alter(0, 0, false);
        Check.carry(net, 0, 0, 3);
        Check.due("the copy is behind the second", net.cost(1, a, 0), -1);
        Check.carry(net, 0, 0, 3);
        Check.due("the copy came", net.cost(1, a, 0), 1);
        for (int i = 0; i < 8; i++) {
            net.announce(0, a, true);
        }
        Check.due("twice and eight are there", net.alter(0, 0, true), false);
        Check.due("eight are there", net.waiting(0, 2), 8);
        Check.due("lost and eight are there", net.alter(0, 0, false), true);
        Check.due("twice and seven are there", net.alter(0, 0, true), true);
        Check.due("eight again", net.waiting(0, 2), 8);
    }

    private static void promise11RefusesWrongFaces() {
        NameNet net = new NameNet(1, 1, 1);
        net.link(0, 0, 1, 0);
        net.announce(0, 0, true);
        for (boolean twice : new boolean[] {false, true}) {
            Check.due("nothing there", net.alter(1, 0, twice), false);
            Check.due("no link", net.alter(0, 1, twice), false);
            Check.due("face 4", net.alter(0, 4, twice), false);
            Check.due("face -1", net.alter(0, -1, twice), false);
            Check.due("node 5", net.alter(5, 0, twice), false);
            Check.due("node -1", net.alter(-1, 0, twice), false);
        }
        Check.due("still there", net.waiting(0, 2), 1);
    }

    private static void promise17CountsWires() {
        NameNet net = new NameNet(1, 1, 1);
        for (int face = 0; face < 4; face++) {
            net.link(0, face, face + 1, 3 - face);
        }
        for (int i = 1; i <= 10; i++) {
            net.announce(0, 0, true);
            for (int face = 0; face < 4; face++) {
                Check.due("wire of face " + face, net.waiting(0, 2 + face), Math.min(i, 8));
            }
        }
        for (int face = 0; face < 4; face++) {
            Check.due("wire of the other side", net.waiting(face + 1, 2 + 3 - face), 0);
        }
        Check.due("what -1", net.waiting(0, -1), -1);
        Check.due("what 6", net.waiting(0, 6), -1);
        Check.due("node -1", net.waiting(-1, 0), -1);
        Check.due("node 5", net.waiting(5, 0), -1);
        Check.due("a face without a link", net.waiting(1, 2), 0);
    }
}
