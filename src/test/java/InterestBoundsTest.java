/** The boundaries of what happens when an interest comes and is passed on (9 ask, 10 carry). */
public final class InterestBoundsTest {
    public static void main(String[] args) {
        anErrandsNonceIsNacked();
        anAskersNonceFromAnotherFaceIsNacked();
        anAskersNonceFromItsOwnFaceIsTaken();
        whatCameRoundIsNackedThoughTheStoreServesIt();
        theStoreServesThoughPendingAreThere();
        anEntryMoreThanPendingIsNacked();
        anEntryThatIsThereNeedsNoRoom();
        roomIsThereAgainWhenAnEntryIsGone();
        entriesThatStayAreAsTheyWereWhenOneIsGone();
        entriesAreOfNameAndFlagsTogether();
        anotherFacesAskOnlyWaits();
        aSecondAskOfAFaceIsPassedOn();
        anAskStandsInThePlaceOfTheOneBefore();
        anAskThatEndedIsNoAskBefore();
        aFaceWithAnErrandIsNotTakenAgain();
        aFaceWithAnAskIsNotTaken();
        faceFourIsTakenThoughItHasAnAsk();
        aLinkThatIsDownIsNotTaken();
        theLeastCostIsTaken();
        ofSeveralTheLeastFaceIsTaken();
        hopsZeroGoesNoFurther();
        hopsZeroTakesNoOtherFace();
        hopsOneGoesOneFurther();
        hopsFourReachesTheEndOfALineOfAll();
        faceFourIsTakenWithHopsZero();
        anEntryWithoutErrandsFails();
        anEntryFailsWhenAllErrandsAreNacked();
        anEntryWithAnErrandOutDoesNotFail();
        anEntryWithoutAFaceWaitsForItsErrand();
        Check.end();
    }

    /** The interest is doubled on the wire: it finds an errand of its nonce the second time. */
    private static void anErrandsNonceIsNacked() {
        Check.says("If there is an entry of its name and flags with an errand of its nonce");
        NameNet net = Nets.line(0, 6, 9);
        net.ask(0, 0, 0, 9);
        net.alter(0, 0, true);
        Check.carry(net, 0, 0, 0);
        Check.due("passed on", net.waiting(1, 3), 1);
        Check.carry(net, 0, 0, 0);
        Check.due("a nack of it is sent out of f", net.waiting(1, 2), 1);
        Check.due("not passed on again", net.waiting(1, 3), 1);
        Check.due("the entry stays", net.waiting(1, 0), 1);
        Check.carry(net, 1, 0, 2);
        Check.due("refused", net.request(0, 0), 2);
    }

    /**
     * Node 0 reaches node 1's face 0 by node 2, and its face 1 when that was nacked. Node 1 has an
     * errand of its own out to node 3, so that what comes from node 0 is an ask's nonce alone.
     */
    private static void anAskersNonceFromAnotherFaceIsNacked() {
        Check.says("or an ask of its nonce from another face than f: a NACK of it is sent");
        NameNet net = new NameNet(0, 6, 9);
        net.link(0, 0, 2, 0);
        net.link(2, 1, 1, 0);
        net.link(0, 1, 1, 1);
        net.link(1, 2, 3, 0);
        net.announce(3, 0, true);
        Check.carry(net, 3, 0, 3);
        Check.carry(net, 1, 0, 3);
        Check.carry(net, 2, 0, 3);
        Check.carry(net, 1, 1, 3);
        Nets.drop(net, 0);
        Nets.drop(net, 1);
        Nets.drop(net, 2);
        net.ask(1, 0, 0, 9);
        net.turn(0, 1, false);
        net.ask(0, 0, 0, 9);
        net.turn(0, 1, true);
        net.alter(0, 0, true);
        Check.carry(net, 0, 0, 0);
        Check.carry(net, 0, 0, 0);
        Check.carry(net, 2, 1, 0);
        Check.due("it waits at node 1 as face 0's ask", net.waiting(1, 2), 0);
        Check.carry(net, 2, 0, 2);
        Check.due("node 0 tries its other face", net.waiting(0, 3), 1);
        Check.carry(net, 0, 1, 0);
        Check.due("face 0's nonce at face 1 is nacked", net.waiting(1, 3), 1);
        Check.carry(net, 1, 1, 2);
        Check.due("refused", net.request(1, 0), 2);
    }

    private static void anAskersNonceFromItsOwnFaceIsTaken() {
        Check.says("an ask of its nonce from another face than f");
        NameNet net = Nets.star(3, 0, 6, 9);
        Nets.tell(net, 1, 0);
        Nets.tell(net, 2, 0);
        net.announce(0, 0, true);
        Check.carry(net, 0, 2, 3);
        net.announce(0, 0, false);
        Nets.drop(net, 0);
        net.ask(0, 0, 0, 9);
        net.ask(3, 0, 0, 9);
        net.alter(3, 0, true);
        Check.carry(net, 3, 0, 0);
        Check.due("it waits as face 2's ask", net.waiting(0, 3), 0);
        Check.carry(net, 3, 0, 0);
        Check.due("its nonce is not nacked at its own face", net.waiting(0, 4), 0);
        Check.due("it is passed on: f had an ask before", net.waiting(0, 3), 1);
    }

    private static void whatCameRoundIsNackedThoughTheStoreServesIt() {
        Check.says("WHEN AN INTEREST COMES to a node at face f (0 .. 4), the first that holds");
        NameNet net = new NameNet(1, 6, 9);
        net.link(0, 0, 1, 0);
        net.link(1, 1, 2, 0);
        net.link(1, 2, 3, 0);
        int a = Check.make(net, "/a");
        net.announce(2, a, true);
        net.announce(3, 0, true);
        Check.carry(net, 2, 0, 3);
        Check.carry(net, 3, 0, 3);
        Check.carry(net, 1, 0, 3);
        Nets.drop(net, 1);
        net.publish(3, a, 10, 0);
        net.ask(0, a, 0, 9);
        net.alter(0, 0, true);
        Check.carry(net, 0, 0, 0);
        net.ask(1, 0, 1, 9);
        Check.carry(net, 1, 2, 0);
        Check.carry(net, 3, 0, 1);
        Check.due("the store has it", net.stored(1, a), 0);
        Check.carry(net, 0, 0, 0);
        Check.carry(net, 1, 0, 2);
    }

    private static void theStoreServesThoughPendingAreThere() {
        Check.says("If the store serves it: that DATA is sent out of f.");
        NameNet net = Nets.pair(1, 1, 9);
        int a = Check.make(net, "/a");
        net.publish(1, a, 10, 0);
        net.ask(0, a, 0, 9);
        Check.carry(net, 0, 0, 0);
        Check.carry(net, 1, 0, 1);
        net.ask(0, 0, 0, 9);
        Check.due("one pending", net.waiting(0, 0), 1);
        net.ask(0, a, 0, 9);
        Check.request(net, 2, 1, a, 10);
        Check.due("no entry for it", net.waiting(0, 0), 1);
    }

    private static void anEntryMoreThanPendingIsNacked() {
        Check.says("If there is no such entry and PENDING are there: a NACK of it is sent out of");
        for (int pending = 1; pending <= 6; pending++) {
            NameNet net = Nets.line(0, pending, 9);
            Nets.fillNames(net, 9);
            for (int i = 1; i <= pending; i++) {
                net.ask(1, i, 0, 9);
                Check.due("there is room", net.request(i - 1, 0), 0);
            }
            net.ask(1, 8, 0, 9);
            Check.due("refused at face 4", net.request(pending, 0), 2);
            net.ask(0, 7, 0, 9);
            Check.carry(net, 0, 0, 0);
            Check.due("a nack out of face 0", net.waiting(1, 2), 1);
            Check.due("PENDING are there", net.waiting(1, 0), pending);
            Check.carry(net, 1, 0, 2);
            Check.due("refused", net.request(pending + 1, 0), 2);
        }
    }

    private static void anEntryThatIsThereNeedsNoRoom() {
        Check.says("If there is no such entry and PENDING are there");
        NameNet net = Nets.line(0, 1, 9);
        net.ask(1, 0, 0, 9);
        net.ask(0, 0, 0, 9);
        Check.carry(net, 0, 0, 0);
        Check.due("no nack", net.waiting(1, 2), 0);
        net.ask(1, 0, 0, 9);
        Check.due("nor at face 4", net.request(2, 0), 0);
        Check.due("one entry", net.waiting(1, 0), 1);
    }

    private static void roomIsThereAgainWhenAnEntryIsGone() {
        Check.says("PENDING ENTRIES of a node: at most PENDING");
        NameNet net = Nets.pair(0, 1, 2);
        int a = Check.make(net, "/a");
        int b = Check.make(net, "/b");
        net.publish(1, a, 3, 0);
        net.ask(0, a, 0, 9);
        Check.carry(net, 0, 0, 0);
        Check.carry(net, 1, 0, 1);
        net.ask(0, b, 0, 9);
        Check.due("behind a data", net.request(1, 0), 0);
        Check.carry(net, 0, 0, 0);
        Check.carry(net, 1, 0, 2);
        net.ask(0, 0, 0, 9);
        Check.due("behind a nack", net.request(2, 0), 0);
        net.tick();
        net.ask(0, b, 0, 9);
        Check.due("not behind one tick", net.request(3, 0), 2);
        net.tick();
        net.ask(0, b, 0, 9);
        Check.due("behind LIFE ticks", net.request(4, 0), 0);
    }

    /** Each of three is gone in its turn, and two new ones are made. */
    private static void entriesThatStayAreAsTheyWereWhenOneIsGone() {
        Check.says("PENDING ENTRIES of a node: at most PENDING, in the order in which they were");
        for (int gone = 1; gone <= 3; gone++) {
            NameNet net = Nets.pair(0, 4, 9);
            Nets.fillNames(net, 6);
            for (int name = 1; name <= 3; name++) {
                net.publish(1, name, name, 0);
                net.ask(0, name, 0, 9);
            }
            for (int name = 1; name <= 3; name++) {
                Check.carry(net, 0, 0, 0);
            }
            for (int i = 1; i < gone; i++) {
                net.alter(1, 0, true);
                net.alter(1, 0, false);
            }
            Check.carry(net, 1, 0, 1);
            Check.due("two stay", net.waiting(0, 0), 2);
            net.ask(0, 4, 0, 9);
            net.ask(0, 5, 0, 9);
            Check.due("two more", net.waiting(0, 0), 4);
            for (int name = 1; name <= 5; name++) {
                Check.due("name " + name, net.request(name - 1, 0), name == gone ? 1 : 0);
            }
            Check.carry(net, 1, 0, 1);
            Check.carry(net, 1, 0, 1);
            for (int name = 1; name <= 5; name++) {
                Check.due("name " + name, net.request(name - 1, 0), name <= 3 ? 1 : 0);
            }
        }
    }

    private static void entriesAreOfNameAndFlagsTogether() {
        Check.says("each of a name and flags that no other one has together");
        NameNet net = Nets.pair(0, 6, 9);
        int a = Check.make(net, "/a");
        for (int flags = 0; flags <= 3; flags++) {
            net.ask(0, a, flags, 9);
            Check.due("an entry of its own", net.waiting(0, 0), flags + 1);
            net.ask(0, a, flags, 9);
            Check.due("and no second one", net.waiting(0, 0), flags + 1);
        }
        net.ask(0, 0, 0, 9);
        Check.due("another name with flags 0", net.waiting(0, 0), 5);
        Check.due("each sent once", net.waiting(0, 2), 5);
    }

    private static void anotherFacesAskOnlyWaits() {
        Check.says("if the entry is new or f had an ask before, the interest is PASSED ON");
        NameNet net = Nets.star(3, 0, 6, 9);
        Nets.tell(net, 1, 0);
        Nets.tell(net, 2, 0);
        net.announce(0, 0, true);
        Check.carry(net, 0, 2, 3);
        Nets.drop(net, 0);
        net.ask(0, 0, 0, 9);
        Check.due("passed on: new", net.waiting(0, 2), 1);
        net.ask(3, 0, 0, 9);
        Check.carry(net, 3, 0, 0);
        Check.due("not passed on: face 2 had no ask", net.waiting(0, 3), 0);
    }

    private static void aSecondAskOfAFaceIsPassedOn() {
        Check.says("or f had an ask before, the interest is PASSED ON for the entry");
        NameNet net = Nets.star(3, 0, 6, 9);
        for (int node = 1; node <= 3; node++) {
            Nets.tell(net, node, 0);
        }
        for (int i = 0; i < 3; i++) {
            net.ask(0, 0, 0, 9);
            for (int face = 0; face < 3; face++) {
                Check.due("sent out of " + face, net.waiting(0, 2 + face), face <= i ? 1 : 0);
            }
        }
        net.ask(0, 0, 0, 9);
        Check.due("no face is left: it waits", net.request(3, 0), 0);
        Check.due("the first waits too", net.request(0, 0), 0);
    }

    /** The nack of a failure has the nonce of the ask that stands, not of the one before. */
    private static void anAskStandsInThePlaceOfTheOneBefore() {
        Check.says("f has an ask with its nonce, which ends at NOW + LIFE, in the place of one");
        NameNet net = Nets.line(0, 6, 3);
        net.ask(0, 0, 0, 9);
        Check.carry(net, 0, 0, 0);
        net.tick();
        net.tick();
        net.ask(0, 0, 0, 9);
        Check.due("it ends later now", net.tick(), 1);
        Check.due("the entry of node 0 is there", net.waiting(0, 0), 1);
        Check.due("that of node 1 is gone", net.waiting(1, 0), 0);
        net.tick();
        Check.due("there still", net.waiting(0, 0), 1);
        Check.due("and ends", net.tick(), 1);
    }

    private static void anAskThatEndedIsNoAskBefore() {
        Check.says("asks that end NOW or ended before are gone");
        NameNet net = Nets.star(3, 0, 6, 2);
        Nets.tell(net, 1, 0);
        Nets.tell(net, 2, 0);
        net.announce(0, 0, true);
        Check.carry(net, 0, 2, 3);
        Nets.drop(net, 0);
        net.ask(0, 0, 0, 9);
        Check.due("out of face 0", net.waiting(0, 2), 1);
        net.tick();
        net.ask(3, 0, 0, 9);
        Check.carry(net, 3, 0, 0);
        net.tick();
        Check.due("face 2's ask holds the entry", net.waiting(0, 0), 1);
        net.ask(0, 0, 0, 9);
        Check.due("face 4 had no ask any more: it waits", net.waiting(0, 3), 0);
        net.ask(0, 0, 0, 9);
        Check.due("face 4 had one: out of face 1", net.waiting(0, 3), 1);
    }

    private static void aFaceWithAnErrandIsNotTakenAgain() {
        Check.says("of the faces that have a cost for it and no errand in the entry");
        NameNet net = Nets.star(2, 0, 6, 9);
        Nets.tell(net, 1, 0);
        net.ask(0, 0, 0, 9);
        net.ask(0, 0, 0, 9);
        Check.due("once out of face 0", net.waiting(0, 2), 1);
        Check.carry(net, 0, 0, 0);
        Check.carry(net, 1, 0, 2);
        Check.due("nor when it was nacked", net.waiting(0, 2), 0);
        Check.due("both are refused", net.request(0, 0) + net.request(1, 0), 4);
        net.ask(0, 0, 0, 9);
        Check.due("a new entry has no errands", net.waiting(0, 2), 1);
    }

    private static void aFaceWithAnAskIsNotTaken() {
        Check.says("or have no ask in it and a link that is up");
        NameNet net = Nets.star(2, 0, 6, 9);
        Nets.tell(net, 1, 0);
        net.announce(0, 0, true);
        Check.carry(net, 0, 0, 3);
        net.announce(0, 0, false);
        Nets.drop(net, 0);
        net.ask(1, 0, 0, 9);
        Check.carry(net, 1, 0, 0);
        Check.due("not back", net.waiting(0, 2), 1);
        Check.carry(net, 0, 0, 2);
        Check.due("refused, for there is no other face", net.request(0, 0), 2);
    }

    private static void faceFourIsTakenThoughItHasAnAsk() {
        Check.says("those that are 4, or have no ask in it");
        NameNet net = new NameNet(0, 6, 9);
        net.announce(0, 0, true);
        net.publish(0, 0, 4, 0);
        net.ask(0, 0, 0, 9);
        Check.request(net, 0, 1, 0, 4);
    }

    private static void aLinkThatIsDownIsNotTaken() {
        Check.says("and a link that is up");
        NameNet net = Nets.star(2, 0, 6, 9);
        Nets.tell(net, 1, 0);
        Nets.tell(net, 2, 0);
        net.turn(0, 0, false);
        net.ask(0, 0, 0, 9);
        Check.due("the other face", net.waiting(0, 3), 1);
        net.turn(0, 1, false);
        net.ask(0, 0, 1, 9);
        Check.due("none is up", net.request(1, 0), 2);
        net.turn(0, 0, true);
        net.ask(0, 0, 1, 9);
        Check.due("up again", net.waiting(0, 2), 1);
    }

    /** Face 0 has cost 2 by node 1 to node 3, face 1 has cost 1. */
    private static void theLeastCostIsTaken() {
        Check.says("the one with the least cost");
        NameNet net = new NameNet(0, 6, 9);
        net.link(0, 0, 1, 0);
        net.link(1, 1, 3, 1);
        net.link(0, 1, 3, 0);
        net.announce(3, 0, true);
        Check.carry(net, 3, 1, 3);
        Check.carry(net, 1, 0, 3);
        Check.carry(net, 3, 0, 3);
        Nets.drop(net, 0);
        Check.due("face 0", net.cost(0, 0, 0), 2);
        Check.due("face 1", net.cost(0, 0, 1), 1);
        net.ask(0, 0, 0, 9);
        Check.due("not out of face 0", net.waiting(0, 2), 0);
        Check.due("out of face 1", net.waiting(0, 3), 1);
        net.announce(0, 0, true);
        Nets.drop(net, 0);
        net.publish(0, 0, 4, 0);
        net.ask(0, 0, 2, 9);
        Check.due("cost 0: out of face 4", net.request(1, 0), 1);
    }

    private static void ofSeveralTheLeastFaceIsTaken() {
        Check.says("of several the least face");
        for (int first = 0; first < 4; first++) {
            NameNet net = Nets.star(4, 0, 6, 9);
            for (int face = 3; face >= first; face--) {
                Nets.tell(net, face + 1, 0);
            }
            net.ask(0, 0, 0, 9);
            for (int face = 0; face < 4; face++) {
                Check.due("out of " + face, net.waiting(0, 2 + face), face == first ? 1 : 0);
            }
        }
    }

    private static void hopsZeroGoesNoFurther() {
        Check.says("(or hops is 0 and it is not 4)");
        NameNet net = Nets.pair(0, 6, 9);
        net.ask(0, 0, 0, 0);
        Check.due("not sent", net.waiting(0, 2), 0);
        Check.due("refused", net.request(0, 0), 2);
        Check.due("no entry", net.waiting(0, 0), 0);
    }

    /** Face 4 costs 0 where it has a cost: it could be another one by a shorter prefix alone. */
    private static void hopsZeroTakesNoOtherFace() {
        Check.says("(no other one, also if hops is 0)");
        NameNet net = Nets.pair(0, 6, 9);
        int a = Check.make(net, "/a");
        net.publish(0, a, 5, 0);
        net.announce(1, a, true);
        Check.carry(net, 1, 0, 3);
        net.announce(0, 0, true);
        net.ask(0, a, 0, 0);
        Check.due("face 4 is not taken by a shorter prefix", net.request(0, 0), 2);
        Check.due("nothing but the notice was sent", net.waiting(0, 2), 1);
    }

    private static void hopsOneGoesOneFurther() {
        Check.says("the interest is sent out of it with hops 1 less");
        NameNet net = Nets.line(0, 6, 9);
        net.ask(0, 0, 0, 1);
        Check.carry(net, 0, 0, 0);
        Check.due("not passed on by node 1", net.waiting(1, 3), 0);
        Check.carry(net, 1, 0, 2);
        net.ask(0, 0, 0, 2);
        Check.carry(net, 0, 0, 0);
        Check.due("passed on by node 1", net.waiting(1, 3), 1);
    }

    private static void hopsFourReachesTheEndOfALineOfAll() {
        Check.says("If there is one and it is 4, or hops is above 0");
        NameNet net = new NameNet(0, 6, 9);
        for (int node = 0; node < 4; node++) {
            net.link(node, 0, node + 1, 1);
        }
        net.announce(4, 0, true);
        for (int node = 4; node > 0; node--) {
            Check.carry(net, node, 1, 3);
        }
        net.publish(4, 0, 5, 0);
        for (int hops = 3; hops <= 4; hops++) {
            int request = net.ask(0, 0, 0, hops);
            for (int node = 0; node < 4; node++) {
                Check.due("node " + node, net.carry(node, 0), hops - node > 0 ? 0 : -1);
            }
            for (int node = 4; node > 0; node--) {
                Check.due("back", net.carry(node, 1), hops > 3 ? 1 : node == 4 ? -1 : 2);
            }
            Check.due("answered", net.request(request, 0), hops > 3 ? 1 : 2);
        }
    }

    private static void faceFourIsTakenWithHopsZero() {
        Check.says("(as it is, if it is 4)");
        NameNet net = Nets.line(0, 6, 9);
        net.publish(2, 0, 5, 0);
        net.ask(2, 0, 0, 0);
        Check.due("at its own node", net.request(0, 0), 1);
        net.ask(0, 0, 0, 2);
        Check.carry(net, 0, 0, 0);
        Check.carry(net, 1, 1, 0);
        Check.due("hops 0 at node 2", net.carry(2, 0), 1);
        net.announce(0, 0, true);
        Nets.drop(net, 0);
        net.ask(0, 0, 2, 1);
        Check.due("face 4 nacks and takes no hop", net.waiting(0, 2), 1);
    }

    private static void anEntryWithoutErrandsFails() {
        Check.says("if all errands of the entry, perhaps none, are nacked, the entry FAILS");
        NameNet net = Nets.line(0, 6, 9);
        net.announce(2, 0, false);
        Check.carry(net, 2, 0, 3);
        net.alter(1, 0, false);
        net.ask(0, 0, 0, 9);
        Check.carry(net, 0, 0, 0);
        Check.due("gone at node 1", net.waiting(1, 0), 0);
        Check.carry(net, 1, 0, 2);
        Check.due("gone at node 0", net.waiting(0, 0), 0);
        Check.due("refused", net.request(0, 0), 2);
    }

    private static void anEntryFailsWhenAllErrandsAreNacked() {
        Check.says("are nacked, the entry FAILS: it is gone, and a NACK");
        NameNet net = Nets.star(2, 0, 6, 9);
        Nets.tell(net, 1, 0);
        Nets.tell(net, 2, 0);
        net.ask(0, 0, 0, 9);
        Check.carry(net, 0, 0, 0);
        Check.carry(net, 1, 0, 2);
        Check.due("one is nacked, the next is out", net.request(0, 0), 0);
        Check.carry(net, 0, 1, 0);
        Check.carry(net, 2, 0, 2);
        Check.due("both are nacked", net.request(0, 0), 2);
        Check.due("gone", net.waiting(0, 0), 0);
    }

    private static void anEntryWithAnErrandOutDoesNotFail() {
        Check.says("otherwise nothing");
        NameNet net = Nets.star(2, 0, 6, 9);
        Nets.tell(net, 1, 0);
        Nets.tell(net, 2, 0);
        net.ask(0, 0, 0, 9);
        net.ask(0, 0, 0, 9);
        Check.carry(net, 0, 1, 0);
        Check.carry(net, 2, 0, 2);
        Check.due("face 0's errand is out", net.request(0, 0), 0);
        Check.due("the entry stays", net.waiting(0, 0), 1);
        Check.carry(net, 0, 0, 0);
        Check.carry(net, 1, 0, 2);
        Check.due("now all are nacked", net.request(0, 0), 2);
    }

    private static void anEntryWithoutAFaceWaitsForItsErrand() {
        Check.says("are nacked, the entry FAILS");
        NameNet net = Nets.pair(0, 6, 9);
        net.ask(0, 0, 0, 9);
        net.ask(0, 0, 0, 0);
        Check.due("hops 0: nothing", net.request(1, 0), 0);
        net.turn(0, 0, false);
        net.ask(0, 0, 0, 9);
        Check.due("no link that is up: nothing", net.request(2, 0), 0);
        net.announce(0, 0, true);
        net.ask(0, 0, 0, 9);
        Check.due("face 4 nacks: nothing", net.request(3, 0), 0);
        Check.due("the entry stays", net.waiting(0, 0), 1);
    }
}
