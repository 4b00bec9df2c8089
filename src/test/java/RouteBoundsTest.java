/** The boundaries of promises 7 announce and 16 cost, and of ROUTES and NOTICES. */
public final class RouteBoundsTest {
    private static final int[] NO_NODES = {Integer.MIN_VALUE, -1, 5, 6, Integer.MAX_VALUE};

    public static void main(String[] args) {
        announceRefusesNodesAndNamesThatAreNone();
        announceOffRefusesWithoutARoute();
        announceOffRefusesARouteWithoutACost();
        aHeardRouteIsNotTheNodesOwn();
        anEleventhRouteIsRefused();
        aRouteThatIsThereNeedsNoRoom();
        aRouteWithoutACostTakesRoom();
        routesOfOtherOriginsTakeNoRoom();
        announceTellsTheFirstRefusal();
        aNewRouteHasSerialOne();
        aNoticeGoesOutOfTheFacesZeroToThree();
        theOriginHearsNothing();
        aSmallerSerialIsNothing();
        aNewRouteHasTheCostForItsFaceAlone();
        aNewRouteOf99HasNoCostButItsSerial();
        aNoticeOf99IsToldOnAs99();
        aNoticeIsNotToldBack();
        aGreaterSerialTakesAllOtherCosts();
        aGreaterSerialIsToldWhateverTheFaceHad();
        theSameSerialWith99IsNothing();
        theSameSerialAsDearIsNothing();
        theSameSerialDearerIsNothing();
        theSameSerialAtANewFaceIsToldOnlyIfCheaper();
        theSameSerialAsDearAtANewFaceIsNotTold();
        theSameSerialCheaperAtItsFaceIsTold();
        theSameSerialCheaperButNotTheLeastIsNotTold();
        theLeastMayBeALaterFaces();
        aCostIsTheLeastOfAllOrigins();
        costIsNoneWithoutARoute();
        costRefusesArgumentsThatAreNone();
        theLongestPrefixHasACost();
        noPrefixHasACost();
        Check.end();
    }

    private static void announceRefusesNodesAndNamesThatAreNone() {
        Check.says("Refused: -1 if there is no such node or name");
        NameNet net = new NameNet(1, 1, 1);
        Check.make(net, "/a");
        for (boolean on : new boolean[] {false, true}) {
            for (int none : NO_NODES) {
                Check.due("node " + none, net.announce(none, 0, on), -1);
            }
            for (int none : new int[] {Integer.MIN_VALUE, -1, 2, 48, Integer.MAX_VALUE}) {
                Check.due("name " + none, net.announce(0, none, on), -1);
            }
        }
        Check.due("node 4, name 1", net.announce(4, 1, true), 1);
        Check.due("node 0, name 0", net.announce(0, 0, true), 1);
    }

    private static void announceOffRefusesWithoutARoute() {
        Check.says("-2 if on is false and its route has no cost or there is none");
        NameNet net = new NameNet(1, 1, 1);
        Check.due("off", net.announce(0, 0, false), -2);
        Check.due("no route was made: serial 1", net.announce(0, 0, true), 1);
    }

    private static void announceOffRefusesARouteWithoutACost() {
        Check.says("-2 if on is false and its route has no cost");
        NameNet net = Nets.star(1, 1, 1, 1);
        net.announce(0, 0, true);
        Check.due("off", net.announce(0, 0, false), 2);
        Check.due("off, off", net.announce(0, 0, false), -2);
        Check.due("nothing was sent by it", net.waiting(0, 2), 2);
        Check.due("the serial did not grow", net.announce(0, 0, true), 3);
    }

    private static void aHeardRouteIsNotTheNodesOwn() {
        Check.says("its own route of the name (the origin is the node)");
        NameNet net = Nets.star(1, 1, 1, 1);
        net.announce(0, 0, true);
        Check.carry(net, 0, 0, 3);
        Check.due("off at the node that heard it", net.announce(1, 0, false), -2);
        Check.due("its own route is new", net.announce(1, 0, true), 1);
        Check.due("the heard one stays", net.cost(1, 0, 0), 1);
    }

    /** Node 0 with names 1 .. 12, of which it made 1 .. 10 known. */
    private static NameNet tenRoutes() {
        NameNet net = new NameNet(1, 1, 1);
        Nets.fillNames(net, 13);
        for (int name = 1; name <= 10; name++) {
            Check.due("route " + name, net.announce(0, name, true), 1);
        }
        return net;
    }

    private static void anEleventhRouteIsRefused() {
        Check.says("-3 if the route is new and ten routes are at this node as origin");
        NameNet net = tenRoutes();
        net.link(0, 0, 1, 0);
        Check.due("the eleventh", net.announce(0, 11, true), -3);
        Check.due("once more", net.announce(0, 0, true), -3);
        Check.due("no cost by it", net.cost(0, 11, 4), -1);
        Check.due("nothing was sent", net.waiting(0, 2), 0);
        Check.due("the tenth is there", net.cost(0, 10, 4), 0);
        Check.due("at another node", net.announce(1, 11, true), 1);
    }

    private static void aRouteThatIsThereNeedsNoRoom() {
        Check.says("-3 if the route is new");
        NameNet net = tenRoutes();
        Check.due("on again", net.announce(0, 1, true), 2);
        Check.due("off", net.announce(0, 10, false), 2);
        Check.due("on after off", net.announce(0, 10, true), 3);
    }

    private static void aRouteWithoutACostTakesRoom() {
        Check.says("(A route that has no costs stays, with its serial.)");
        NameNet net = tenRoutes();
        net.announce(0, 5, false);
        Check.due("an eleventh", net.announce(0, 11, true), -3);
        Check.due("the fifth with its serial", net.announce(0, 5, true), 3);
    }

    private static void routesOfOtherOriginsTakeNoRoom() {
        Check.says("ten routes are at this node as origin");
        NameNet net = tenRoutes();
        net.link(0, 0, 1, 0);
        for (int name = 1; name <= 10; name++) {
            net.announce(0, name, true);
            Check.carry(net, 0, 0, 3);
        }
        for (int name = 3; name <= 12; name++) {
            Check.due("node 1 makes ten known too", net.announce(1, name, true), 1);
            Check.carry(net, 1, 0, 3);
            Check.due("node 0 hears all of them", net.cost(0, name, 0), 1);
        }
        Check.due("its eleventh", net.announce(1, 1, true), -3);
    }

    private static void announceTellsTheFirstRefusal() {
        Check.says("the first that holds, in the order named, is answered");
        NameNet net = tenRoutes();
        Check.due("-1 ahead of -2", net.announce(0, 13, false), -1);
        Check.due("-1 ahead of -3", net.announce(0, 13, true), -1);
        Check.due("-2 though an eleventh has no room", net.announce(0, 11, false), -2);
    }

    private static void aNewRouteHasSerialOne() {
        Check.says("has a serial of 1 more (1 for a new one)");
        NameNet net = new NameNet(1, 1, 1);
        for (int serial = 1; serial <= 200; serial++) {
            Check.due("serial", net.announce(0, 0, serial % 2 == 1), serial);
            Check.due("cost of face 4", net.cost(0, 0, 4), serial % 2 == 1 ? 0 : -1);
        }
        net.link(0, 0, 1, 0);
        for (int serial = 201; serial <= 208; serial++) {
            Check.due("serial", net.announce(0, 0, serial % 2 == 1), serial);
        }
        for (int serial = 201; serial <= 208; serial++) {
            Check.carry(net, 0, 0, 3);
            Check.due("heard as the newest", net.cost(1, 0, 0), serial % 2 == 1 ? 1 : -1);
        }
    }

    private static void aNoticeGoesOutOfTheFacesZeroToThree() {
        Check.says("it sends, out of each of the faces 0 .. 3, a notice of it with cost 1, or 99");
        NameNet net = Nets.star(4, 1, 1, 1);
        net.announce(0, 0, true);
        for (int face = 0; face < 4; face++) {
            Check.due("sent", net.waiting(0, 2 + face), 1);
            Check.carry(net, 0, face, 3);
            Check.due("cost 1", net.cost(face + 1, 0, 0), 1);
        }
        net.announce(0, 0, false);
        for (int face = 0; face < 4; face++) {
            Check.carry(net, 0, face, 3);
            Check.due("no cost", net.cost(face + 1, 0, 0), -1);
        }
    }

    /** Nodes 0, 1, 2 in a ring: 0.0 - 1.0, 1.1 - 2.0, 2.1 - 0.1; node 3 is behind 2.2. */
    private static NameNet ring() {
        NameNet net = new NameNet(1, 1, 1);
        net.link(0, 0, 1, 0);
        net.link(1, 1, 2, 0);
        net.link(2, 1, 0, 1);
        net.link(2, 2, 3, 0);
        return net;
    }

    private static void theOriginHearsNothing() {
        Check.says("nothing if it is the origin");
        NameNet net = ring();
        net.announce(0, 0, true);
        Check.carry(net, 0, 0, 3);
        Check.carry(net, 1, 1, 3);
        Nets.drop(net, 0);
        Check.carry(net, 2, 1, 3);
        Check.due("no cost of the face", net.cost(0, 0, 1), -1);
        Check.due("face 4 as it was", net.cost(0, 0, 4), 0);
        Check.due("nothing told", net.waiting(0, 2), 0);
        Check.due("the serial as it was", net.announce(0, 0, true), 2);
    }

    private static void aSmallerSerialIsNothing() {
        Check.says("or has the route with a greater serial");
        NameNet net = ring();
        net.announce(0, 0, true);
        net.announce(0, 0, true);
        net.announce(0, 0, true);
        Check.due("1 2 3 1", net.alter(0, 0, true), true);
        net.alter(0, 0, false);
        net.alter(0, 0, false);
        Check.carry(net, 0, 0, 3);
        Nets.drop(net, 1);
        Check.due("serial 3", net.cost(1, 0, 0), 1);
        Check.carry(net, 0, 0, 3);
        Check.due("serial 1 changes nothing", net.cost(1, 0, 0), 1);
        Check.due("nor is it told", net.waiting(1, 3), 0);
        // serial 1 by way of node 2 would give face 1 a cost
        Check.carry(net, 0, 1, 3);
        Check.carry(net, 2, 0, 3);
        Check.due("serial 1 at another face", net.cost(1, 0, 1), -1);
        Check.due("nor is that told", net.waiting(1, 2), 0);
    }

    private static void aNewRouteHasTheCostForItsFaceAlone() {
        Check.says("the route has this serial and, unless the cost is 99, this cost for f");
        NameNet net = ring();
        net.announce(0, 0, true);
        Check.carry(net, 0, 0, 3);
        for (int face = 0; face <= 4; face++) {
            Check.due("face " + face, net.cost(1, 0, face), face == 0 ? 1 : -1);
        }
        Check.carry(net, 1, 1, 3);
        Check.carry(net, 2, 2, 3);
        Check.due("one more at node 2", net.cost(2, 0, 0), 2);
        Check.due("one more at node 3", net.cost(3, 0, 0), 3);
    }

    /** Node 1 hears of serial 2, which is off, before serial 1, which was on. */
    private static void aNewRouteOf99HasNoCostButItsSerial() {
        Check.says("unless the cost is 99, this cost for f");
        NameNet net = ring();
        net.announce(0, 0, true);
        net.announce(0, 0, false);
        net.alter(0, 0, true);
        net.alter(0, 0, false);
        Check.carry(net, 0, 0, 3);
        Check.due("no cost by serial 2", net.cost(1, 0, 0), -1);
        Check.carry(net, 0, 0, 3);
        Check.due("none by serial 1", net.cost(1, 0, 0), -1);
        Check.due("serial 2 was told, 1 was not", net.waiting(1, 3), 1);
        net.announce(0, 0, true);
        Check.carry(net, 0, 0, 3);
        Check.due("a cost by serial 3", net.cost(1, 0, 0), 1);
    }

    private static void aNoticeOf99IsToldOnAs99() {
        Check.says("the notice with a cost of 1 more (99 if it is 99)");
        NameNet net = ring();
        net.announce(0, 0, true);
        net.announce(0, 0, false);
        Check.carry(net, 0, 0, 3);
        Check.carry(net, 1, 1, 3);
        Check.carry(net, 2, 2, 3);
        Check.due("on at node 3", net.cost(3, 0, 0), 3);
        Check.carry(net, 0, 0, 3);
        Check.carry(net, 1, 1, 3);
        Check.due("off at node 2", net.cost(2, 0, 0), -1);
        Check.carry(net, 2, 2, 3);
        Check.due("off at node 3", net.cost(3, 0, 0), -1);
        Check.carry(net, 2, 1, 3);
        Check.due("nothing at the origin", net.cost(0, 0, 1), -1);
    }

    private static void aNoticeIsNotToldBack() {
        Check.says("the node sends, out of each of the faces 0 .. 3 but f");
        NameNet net = Nets.star(4, 1, 1, 1);
        for (int face = 0; face < 4; face++) {
            net.announce(face + 1, 0, true);
            Check.carry(net, face + 1, 0, 3);
            for (int other = 0; other < 4; other++) {
                Check.due("told out of " + other, net.waiting(0, 2 + other), other == face ? 0 : 1);
            }
            Nets.drop(net, 0);
        }
    }

    private static void aGreaterSerialTakesAllOtherCosts() {
        Check.says("no other costs");
        NameNet net = ring();
        net.announce(0, 0, true);
        Check.carry(net, 0, 1, 3);
        Check.carry(net, 0, 0, 3);
        Check.carry(net, 1, 1, 3);
        Check.due("face 0", net.cost(2, 0, 0), 2);
        Check.due("face 1", net.cost(2, 0, 1), 1);
        net.announce(0, 0, true);
        Check.carry(net, 0, 0, 3);
        Check.carry(net, 1, 1, 3);
        Check.due("face 0 by the greater serial", net.cost(2, 0, 0), 2);
        Check.due("face 1 has none, though it was cheaper", net.cost(2, 0, 1), -1);
    }

    private static void aGreaterSerialIsToldWhateverTheFaceHad() {
        Check.says("whatever f had");
        NameNet net = ring();
        net.announce(0, 0, true);
        Check.carry(net, 0, 1, 3);
        Nets.drop(net, 2);
        net.announce(0, 0, true);
        Check.carry(net, 0, 1, 3);
        Check.due("told though f had the same cost", net.waiting(2, 4), 1);
        Nets.drop(net, 2);
        Nets.drop(net, 0);
        net.announce(0, 0, true);
        Check.carry(net, 0, 0, 3);
        Check.carry(net, 1, 1, 3);
        Check.due("told though it is dearer", net.waiting(2, 4), 1);
        Check.carry(net, 2, 2, 3);
        Check.due("with its own cost", net.cost(3, 0, 0), 3);
    }

    private static void theSameSerialWith99IsNothing() {
        Check.says("If the serials are the same: if the cost is not 99");
        NameNet net = ring();
        net.announce(0, 0, true);
        Nets.drop(net, 0);
        net.announce(0, 0, false);
        net.alter(0, 1, true);
        Check.carry(net, 0, 1, 3);
        Nets.drop(net, 2);
        Check.carry(net, 0, 1, 3);
        Check.due("no cost at the same face", net.cost(2, 0, 1), -1);
        Check.due("not told", net.waiting(2, 4), 0);
        Check.carry(net, 0, 0, 3);
        Check.carry(net, 1, 1, 3);
        Check.due("no cost at another face", net.cost(2, 0, 0), -1);
        Check.due("not told either", net.waiting(2, 4), 0);
    }

    private static void theSameSerialAsDearIsNothing() {
        Check.says("f has none or a greater one, f has this cost");
        NameNet net = ring();
        net.announce(0, 0, true);
        net.alter(0, 1, true);
        Check.carry(net, 0, 1, 3);
        Nets.drop(net, 2);
        Check.carry(net, 0, 1, 3);
        Check.due("the cost as it was", net.cost(2, 0, 1), 1);
        Check.due("not told", net.waiting(2, 4), 0);
    }

    /** The notice of the long way is doubled on its wire and comes behind the short way's. */
    private static void theSameSerialDearerIsNothing() {
        Check.says("f has none or a greater one");
        NameNet net = new NameNet(1, 1, 1);
        net.link(0, 0, 3, 0);
        net.link(3, 1, 2, 1);
        net.link(0, 1, 2, 0);
        net.link(2, 2, 1, 1);
        net.link(1, 2, 4, 0);
        net.announce(0, 0, true);
        Check.carry(net, 0, 0, 3);
        Check.carry(net, 3, 1, 3);
        Check.carry(net, 0, 1, 3);
        net.alter(2, 2, true);
        net.alter(2, 2, false);
        Check.carry(net, 2, 2, 3);
        Check.due("the short way", net.cost(1, 0, 1), 2);
        Nets.drop(net, 1);
        Check.carry(net, 2, 2, 3);
        Check.due("the long way is nothing", net.cost(1, 0, 1), 2);
        Check.due("not told", net.waiting(1, 4), 0);
    }

    /** Node 3 is reached by nodes 1 and 2 alike. */
    private static void theSameSerialAsDearAtANewFaceIsNotTold() {
        Check.says("if the least cost of the route is less than before");
        NameNet net = new NameNet(1, 1, 1);
        net.link(0, 0, 1, 0);
        net.link(0, 1, 2, 0);
        net.link(1, 1, 3, 0);
        net.link(2, 1, 3, 1);
        net.link(3, 2, 4, 0);
        net.announce(0, 0, true);
        Check.carry(net, 0, 0, 3);
        Check.carry(net, 0, 1, 3);
        Check.carry(net, 1, 1, 3);
        Nets.drop(net, 3);
        Check.carry(net, 2, 1, 3);
        Check.due("face 0", net.cost(3, 0, 0), 2);
        Check.due("face 1 as dear", net.cost(3, 0, 1), 2);
        Check.due("not told", net.waiting(3, 4), 0);
    }

    private static void theSameSerialAtANewFaceIsToldOnlyIfCheaper() {
        Check.says("if the least cost of the route is less than before");
        NameNet cheapFirst = ring();
        cheapFirst.announce(0, 0, true);
        Check.carry(cheapFirst, 0, 1, 3);
        Nets.drop(cheapFirst, 2);
        Check.carry(cheapFirst, 0, 0, 3);
        Check.carry(cheapFirst, 1, 1, 3);
        Check.due("the dear one is there too", cheapFirst.cost(2, 0, 0), 2);
        Check.due("but not told", cheapFirst.waiting(2, 4), 0);
        NameNet dearFirst = ring();
        dearFirst.announce(0, 0, true);
        Check.carry(dearFirst, 0, 0, 3);
        Check.carry(dearFirst, 1, 1, 3);
        Check.carry(dearFirst, 2, 2, 3);
        Check.due("the dear one is told", dearFirst.cost(3, 0, 0), 3);
        Nets.drop(dearFirst, 2);
        Check.carry(dearFirst, 0, 1, 3);
        Check.due("the dear one stays", dearFirst.cost(2, 0, 0), 2);
        Check.due("the cheap one is told, not back", dearFirst.waiting(2, 3), 0);
        Check.due("but where the dear one came", dearFirst.waiting(2, 2), 1);
        Check.carry(dearFirst, 2, 2, 3);
        Check.due("with that least cost and 1", dearFirst.cost(3, 0, 0), 2);
    }

    /** Two ways to node 1's face 1 by node 2, the longer of which is heard first. */
    private static NameNet longWayFirst() {
        NameNet net = new NameNet(1, 1, 1);
        net.link(0, 0, 3, 0);
        net.link(3, 1, 2, 1);
        net.link(0, 1, 2, 0);
        net.link(2, 2, 1, 1);
        net.link(0, 2, 1, 0);
        net.link(1, 2, 4, 0);
        net.announce(0, 0, true);
        Check.carry(net, 0, 0, 3);
        Check.carry(net, 3, 1, 3);
        Check.carry(net, 2, 2, 3);
        Check.due("the long way", net.cost(1, 0, 1), 3);
        return net;
    }

    private static void theSameSerialCheaperAtItsFaceIsTold() {
        Check.says("f has none or a greater one, f has this cost, and if the least cost");
        NameNet net = longWayFirst();
        Nets.drop(net, 1);
        Check.carry(net, 0, 1, 3);
        Check.carry(net, 2, 2, 3);
        Check.due("the short way in its place", net.cost(1, 0, 1), 2);
        Check.due("told", net.waiting(1, 4), 1);
        Check.due("not back", net.waiting(1, 3), 0);
        Check.carry(net, 1, 2, 3);
        Check.due("with the least cost and 1", net.cost(4, 0, 0), 3);
    }

    private static void theSameSerialCheaperButNotTheLeastIsNotTold() {
        Check.says("if the least cost of the route is less than before (or there was none)");
        NameNet net = longWayFirst();
        Check.carry(net, 0, 2, 3);
        Check.due("straight from node 0", net.cost(1, 0, 0), 1);
        Nets.drop(net, 1);
        Check.carry(net, 0, 1, 3);
        Check.carry(net, 2, 2, 3);
        Check.due("the short way in its place", net.cost(1, 0, 1), 2);
        Check.due("not told", net.waiting(1, 4), 0);
    }

    /** Node 1 hears cost 3 at face 1, then 1 at face 3, then 2 at face 1. */
    private static void theLeastMayBeALaterFaces() {
        Check.says("Its LEAST cost is the least of these.");
        NameNet net = longWayFirst();
        net.link(0, 3, 1, 3);
        net.turn(0, 2, false);
        net.announce(0, 0, true);
        Check.carry(net, 0, 0, 3);
        Nets.drop(net, 2);
        Check.carry(net, 3, 1, 3);
        Check.carry(net, 2, 2, 3);
        Check.due("the long way", net.cost(1, 0, 1), 3);
        Check.carry(net, 0, 3, 3);
        Check.due("straight from node 0", net.cost(1, 0, 3), 1);
        Nets.drop(net, 1);
        for (int i = 0; i < 2; i++) {
            Check.carry(net, 0, 1, 3);
        }
        Nets.drop(net, 1);
        Check.carry(net, 2, 2, 3);
        Check.due("the short way in its place", net.cost(1, 0, 1), 2);
        Check.due("not told, for face 3 has less", net.waiting(1, 4), 0);
    }

    private static void aCostIsTheLeastOfAllOrigins() {
        Check.says("The cost of a face for a name is the least that the face has in routes of");
        NameNet net = Nets.line(1, 1, 1);
        Check.due("from node 2", net.cost(0, 0, 0), 2);
        net.announce(1, 0, true);
        Check.carry(net, 1, 0, 3);
        Check.due("from node 1 too", net.cost(0, 0, 0), 1);
        net.announce(2, 0, true);
        Check.carry(net, 2, 0, 3);
        Check.carry(net, 1, 0, 3);
        Check.due("the least, not the latest", net.cost(0, 0, 0), 1);
        net.announce(1, 0, false);
        Check.carry(net, 1, 0, 3);
        Check.due("from node 2 alone again", net.cost(0, 0, 0), 2);
    }

    private static void costIsNoneWithoutARoute() {
        Check.says("NONE if there is none");
        NameNet net = Nets.pair(1, 1, 1);
        int a = Check.make(net, "/a");
        Check.due("face 0", net.cost(0, 0, 0), 1);
        Check.due("another face", net.cost(0, 0, 1), -1);
        Check.due("face 4 of a node that heard it", net.cost(0, 0, 4), -1);
        Check.due("a name below", net.cost(0, a, 0), -1);
        Check.due("a node that heard nothing", net.cost(2, 0, 0), -1);
        net.announce(1, a, true);
        net.announce(1, 0, false);
        Check.carry(net, 1, 0, 3);
        Check.carry(net, 1, 0, 3);
        Check.due("the name below", net.cost(0, a, 0), 1);
        Check.due("the name above", net.cost(0, 0, 0), -1);
    }

    private static void costRefusesArgumentsThatAreNone() {
        Check.says("or no such node, face or name");
        NameNet net = new NameNet(1, 1, 1);
        net.announce(0, 0, true);
        net.announce(4, 0, true);
        for (int none : NO_NODES) {
            Check.due("node " + none, net.cost(none, 0, 4), -1);
            Check.due("face " + none, net.cost(0, 0, none), -1);
        }
        for (int none : new int[] {Integer.MIN_VALUE, -1, 1, 48, Integer.MAX_VALUE}) {
            Check.due("name " + none, net.cost(0, none, 4), -1);
        }
        Check.due("node 0", net.cost(0, 0, 4), 0);
        Check.due("node 4", net.cost(4, 0, 4), 0);
    }

    /** A longer name whose route has no cost any more is not the longest prefix. */
    private static void theLongestPrefixHasACost() {
        Check.says("the one with most components, of its prefixes, for which some face has a cost");
        NameNet net = Nets.star(2, 0, 6, 9);
        int ab = Check.make(net, "/a/b");
        Nets.tell(net, 1, 0);
        Nets.tell(net, 2, net.parent(ab));
        net.ask(0, ab, 0, 9);
        Check.due("by /a", net.waiting(0, 3), 1);
        net.announce(0, ab, true);
        net.ask(0, ab, 2, 9);
        Check.due("/a/b itself, whose face 4 nacks", net.request(1, 0), 2);
        net.announce(0, ab, false);
        Nets.drop(net, 0);
        net.ask(0, ab, 1, 9);
        Check.due("by /a again", net.waiting(0, 3), 1);
        net.announce(2, net.parent(ab), false);
        Check.carry(net, 2, 0, 3);
        Nets.drop(net, 0);
        net.ask(0, ab, 3, 9);
        Check.due("by /", net.waiting(0, 2), 1);
    }

    private static void noPrefixHasACost() {
        Check.says("If there is none");
        NameNet net = Nets.star(1, 0, 6, 9);
        int ab = Check.make(net, "/a/b");
        int abc = Check.make(net, "/a/b/c");
        int c = Check.make(net, "/c");
        Nets.tell(net, 1, ab);
        net.ask(0, net.parent(ab), 1, 9);
        Check.due("a shorter name", net.request(0, 0), 2);
        net.ask(0, c, 0, 9);
        Check.due("another name", net.request(1, 0), 2);
        net.ask(0, 0, 3, 9);
        Check.due("name 0", net.request(2, 0), 2);
        Check.due("nothing was sent", net.waiting(0, 2), 0);
        net.ask(0, abc, 0, 9);
        Check.due("a longer name", net.waiting(0, 2), 1);
    }
}
