/**
 * The boundaries of 8 publish, 9 ask, 12 tick, 19 request, of what happens when a data or a nack
 * comes (10 carry), and of LIFE and PENDING of a new object (1).
 */
public final class AnswerBoundsTest {
    private static final int[] NO_NODES = {Integer.MIN_VALUE, -1, 5, 6, Integer.MAX_VALUE};
    private static final int[] NO_NAMES = {Integer.MIN_VALUE, -1, 2, 48, Integer.MAX_VALUE};

    public static void main(String[] args) {
        pendingIs1To6();
        lifeIs1To9();
        publishRefusesNodesAndNamesThatAreNone();
        publishRefusesPeriodsOutside0To20();
        publishRefusesANamePublishedBefore();
        aRefusedPublishPublishesNothing();
        aContentMayBeAnyNumber();
        theProducerTakesTheLeastName();
        theProducerAnswersFreshOrNot();
        theProducerHasNothingOfOtherNodes();
        theProducersNackTriesTheNextFaceAtOnce();
        askRefusesArgumentsThatAreNone();
        askRefusesThe121stRequest();
        askTellsTheFirstRefusal();
        flagsTellPrefixedAndFreshened();
        aDataAnswersNoLongerName();
        aDataWithoutAnEntryIsLost();
        aDataAtAFaceWithoutAnErrandIsLost();
        aDataEndsAllEntriesThatItAnswers();
        aDataEndsAnEntryWhoseErrandWasNacked();
        aDataIsSentOutOfEachFaceWithAnAsk();
        aDataIsNotSentOutOfAFaceWhoseAskEnded();
        aNackWithoutAnEntryIsNothing();
        aNackOfOtherFlagsIsNothing();
        aNackAtAnotherFaceIsNothing();
        aNackOfAnotherNonceIsNothing();
        aSecondNackIsNothing();
        aNackPassesOnWithTheLatestHops();
        aFailureNacksWithEachAskersNonce();
        aNackRefusesAllWaitingRequests();
        aDataAnswersWaitingRequestsAlone();
        aStoredDataAnswersWaitingRequestsToo();
        requestsAreLateAfterLifeTicks();
        nowCountsAllTicks();
        tickEndsAsksThatEndNow();
        tickLeavesEntriesWithAsks();
        tickCountsTheEntriesOfAllNodes();
        tickSendsNothing();
        requestRefusesRequestsThatAreNone();
        requestRefusesWhatsThatAreNone();
        aRequestThatIsNotAnsweredHasNoNameAndContentZero();
        Check.end();
    }

    private static int mostPending(int pending) {
        NameNet net = Nets.pair(0, pending, 9);
        Nets.fillNames(net, 11);
        for (int name = 0; name <= 10; name++) {
            net.ask(0, name, 0, 9);
        }
        return net.waiting(0, 0);
    }

    private static void pendingIs1To6() {
        Check.says("PENDING is pending, but 1 if that is less and 6 if that is more");
        for (int pending = -3; pending <= 9; pending++) {
            Check.due("pending " + pending, mostPending(pending),
                    pending < 1 ? 1 : pending > 6 ? 6 : pending);
        }
        Check.due("the least", mostPending(Integer.MIN_VALUE), 1);
        Check.due("the greatest", mostPending(Integer.MAX_VALUE), 6);
    }

    /** How many ticks a request waits; its entry must be gone by the same one. */
    private static int ticksOfLife(int life) {
        NameNet net = Nets.pair(0, 1, life);
        net.ask(0, 0, 0, 9);
        int ticks = 0;
        while (net.request(0, 0) == 0 && ticks < 30) {
            Check.due("the entry is there", net.waiting(0, 0), 1);
            net.tick();
            ticks++;
        }
        Check.due("late", net.request(0, 0), 3);
        Check.due("the entry is gone", net.waiting(0, 0), 0);
        return ticks;
    }

    private static void lifeIs1To9() {
        Check.says("LIFE is life, but 1 if that is less and 9 if that is more");
        for (int life = -3; life <= 12; life++) {
            Check.due("life " + life, ticksOfLife(life), life < 1 ? 1 : life > 9 ? 9 : life);
        }
        Check.due("the least", ticksOfLife(Integer.MIN_VALUE), 1);
        Check.due("the greatest", ticksOfLife(Integer.MAX_VALUE), 9);
    }

    private static void publishRefusesNodesAndNamesThatAreNone() {
        Check.says("False if there is no such node or name");
        NameNet net = new NameNet(1, 1, 1);
        int a = Check.make(net, "/a");
        for (int none : NO_NODES) {
            Check.due("node " + none, net.publish(none, a, 1, 1), false);
        }
        for (int none : NO_NAMES) {
            Check.due("name " + none, net.publish(0, none, 1, 1), false);
        }
        Check.due("node 4", net.publish(4, a, 1, 1), true);
        Check.due("node 0, name 0", net.publish(0, 0, 1, 1), true);
    }

    private static void publishRefusesPeriodsOutside0To20() {
        Check.says("the period is not 0 .. 20");
        NameNet net = new NameNet(1, 1, 1);
        int a = Check.make(net, "/a");
        for (int none : new int[] {Integer.MIN_VALUE, -1, 21, Integer.MAX_VALUE}) {
            Check.due("period " + none, net.publish(0, a, 1, none), false);
        }
        Check.due("period 0", net.publish(0, a, 1, 0), true);
        Check.due("period 20", net.publish(0, 0, 1, 20), true);
    }

    private static void publishRefusesANamePublishedBefore() {
        Check.says("or a data of this name was published before (anywhere)");
        NameNet net = new NameNet(1, 1, 1);
        int a = Check.make(net, "/a");
        net.publish(2, a, 1, 1);
        for (int node = 0; node < 5; node++) {
            Check.due("node " + node, net.publish(node, a, 1, 1), false);
        }
        Check.due("the name above", net.publish(2, 0, 1, 1), true);
    }

    private static void aRefusedPublishPublishesNothing() {
        Check.says("A call that is refused changes nothing");
        NameNet net = new NameNet(0, 1, 1);
        int a = Check.make(net, "/a");
        net.announce(0, 0, true);
        net.announce(1, 0, true);
        net.publish(0, a, 1, 21);
        net.ask(0, a, 0, 0);
        Check.due("nothing by a wrong period", net.request(0, 0), 2);
        net.publish(0, a, 1, 1);
        net.publish(0, a, 2, 2);
        net.publish(1, a, 3, 3);
        net.ask(0, a, 0, 0);
        Check.request(net, 1, 1, a, 1);
        net.ask(1, a, 0, 0);
        Check.request(net, 2, 2, -1, 0);
    }

    private static void aContentMayBeAnyNumber() {
        Check.says("(A content may be any number.)");
        for (int content : new int[] {Integer.MIN_VALUE, -1, 0, 1, Integer.MAX_VALUE}) {
            NameNet net = new NameNet(1, 1, 1);
            net.announce(0, 0, true);
            net.publish(0, 0, content, 0);
            net.ask(0, 0, 0, 0);
            Check.request(net, 0, 1, 0, content);
            net.ask(0, 0, 0, 0);
            Check.request(net, 1, 1, 0, content);
        }
    }

    private static void theProducerTakesTheLeastName() {
        Check.says("the one with the least name comes as a DATA at face 4");
        NameNet net = new NameNet(0, 1, 1);
        Nets.fillNames(net, 6);
        net.announce(0, 0, true);
        for (int name = 5; name >= 0; name--) {
            net.publish(0, name, name, 0);
            Check.due("name of the answer", net.request(net.ask(0, 0, 1, 0), 1), name);
        }
        Check.due("of another name alone", net.request(net.ask(0, 3, 1, 0), 1), 3);
    }

    private static void theProducerAnswersFreshOrNot() {
        Check.says("at once, fresh or not");
        NameNet net = new NameNet(1, 1, 1);
        net.announce(0, 0, true);
        net.publish(0, 0, 7, 0);
        for (int i = 0; i < 3; i++) {
            net.ask(0, 0, 2, 0);
            Check.due("period 0", net.request(i, 0), 1);
            net.tick();
        }
    }

    private static void theProducerHasNothingOfOtherNodes() {
        Check.says("if one of the datas that are published at this node answers it");
        NameNet net = new NameNet(1, 1, 1);
        net.announce(0, 0, true);
        net.publish(1, 0, 7, 0);
        net.ask(0, 0, 0, 9);
        Check.due("published at node 1", net.request(0, 0), 2);
        net.ask(1, 0, 0, 9);
        Check.due("published, but no route leads to face 4", net.request(1, 0), 2);
    }

    private static void theProducersNackTriesTheNextFaceAtOnce() {
        Check.says("(so that the next face may be taken in the same call)");
        NameNet net = Nets.pair(0, 6, 9);
        net.announce(0, 0, true);
        Nets.drop(net, 0);
        net.ask(0, 0, 0, 1);
        Check.due("out of face 0", net.waiting(0, 2), 1);
        Check.due("it waits", net.request(0, 0), 0);
        Check.carry(net, 0, 0, 0);
        Check.carry(net, 1, 0, 2);
        Check.due("both are nacked", net.request(0, 0), 2);
    }

    private static void askRefusesArgumentsThatAreNone() {
        Check.says("Refused: -1 if there is no such node or name, flags is not 0 .. 3, or hops");
        NameNet net = new NameNet(1, 1, 1);
        Check.make(net, "/a");
        for (int none : NO_NODES) {
            Check.due("node " + none, net.ask(none, 0, 0, 0), -1);
        }
        for (int none : NO_NAMES) {
            Check.due("name " + none, net.ask(0, none, 0, 0), -1);
        }
        for (int none : new int[] {Integer.MIN_VALUE, -1, 4, Integer.MAX_VALUE}) {
            Check.due("flags " + none, net.ask(0, 0, none, 0), -1);
        }
        for (int none : new int[] {Integer.MIN_VALUE, -1, 10, Integer.MAX_VALUE}) {
            Check.due("hops " + none, net.ask(0, 0, 0, none), -1);
        }
        Check.due("the least of all", net.ask(0, 0, 0, 0), 0);
        Check.due("the greatest of all", net.ask(4, 1, 3, 9), 1);
    }

    /** As many requests at all the nodes, refused, for nothing was announced. */
    private static NameNet requests(int count) {
        NameNet net = new NameNet(0, 6, 9);
        for (int i = 0; i < count; i++) {
            Check.due("the number of a request", net.ask(i % 5, 0, i % 4, i % 10), i);
        }
        return net;
    }

    private static void askRefusesThe121stRequest() {
        Check.says("-2 if there were 120 requests");
        NameNet net = requests(119);
        net.announce(0, 0, true);
        net.publish(0, 0, 3, 0);
        Check.due("the 120th", net.ask(0, 0, 0, 0), 119);
        Check.request(net, 119, 1, 0, 3);
        Check.due("the 121st", net.ask(0, 0, 0, 0), -2);
        Check.due("once more", net.ask(4, 0, 3, 9), -2);
        Check.due("no request 120", net.request(120, 0), -1);
        Check.due("no entry by it", net.waiting(4, 0), 0);
    }

    private static void askTellsTheFirstRefusal() {
        Check.says("the first that holds, in the order named, is answered");
        NameNet net = requests(120);
        Check.due("no node", net.ask(5, 0, 0, 0), -1);
        Check.due("no name", net.ask(0, 1, 0, 0), -1);
        Check.due("no flags", net.ask(0, 0, 4, 0), -1);
        Check.due("no hops", net.ask(0, 0, 0, 10), -1);
        Check.due("no room", net.ask(0, 0, 0, 0), -2);
    }

    /** A data below the name is in the store, not fresh; so is then one of the name, fresh. */
    private static void flagsTellPrefixedAndFreshened() {
        Check.says("PREFIXED is flags 1 or 3, FRESHENED is 2 or 3");
        int[] below = {2, 1, 2, 2};
        int[] same = {1, 1, 2, 2};
        for (int flags = 0; flags <= 3; flags++) {
            NameNet net = new NameNet(1, 1, 1);
            int ab = Check.make(net, "/a/b");
            net.announce(0, 0, true);
            net.publish(0, ab, 5, 0);
            net.ask(0, ab, 0, 0);
            net.announce(0, 0, false);
            net.ask(0, net.parent(ab), flags, 0);
            Check.due("a longer name, flags " + flags, net.request(1, 0), below[flags]);
            net.ask(0, ab, flags, 0);
            Check.due("the name, flags " + flags, net.request(2, 0), same[flags]);
        }
    }

    private static void aDataAnswersNoLongerName() {
        Check.says("if its name is that one's, or, when that is prefixed, has that one's as a");
        NameNet net = Nets.pair(0, 6, 9);
        int ab = Check.make(net, "/a/b");
        int a = net.parent(ab);
        net.publish(1, a, 5, 0);
        for (int flags = 0; flags <= 3; flags++) {
            net.ask(0, ab, flags, 9);
        }
        Nets.drop(net, 0);
        net.ask(0, a, 0, 9);
        Check.carry(net, 0, 0, 0);
        Check.carry(net, 1, 0, 1);
        Check.due("/a is answered", net.request(4, 0), 1);
        Check.due("the entries of /a/b stay", net.waiting(0, 0), 4);
    }

    private static void aDataWithoutAnEntryIsLost() {
        Check.says("otherwise it is lost");
        NameNet net = Nets.line(6, 6, 2);
        net.publish(2, 0, 5, 9);
        net.ask(1, 0, 0, 9);
        Check.carry(net, 1, 1, 0);
        net.alter(2, 0, true);
        net.tick();
        net.tick();
        Check.carry(net, 2, 0, 1);
        Check.due("not kept", net.waiting(1, 1), 0);
        Check.due("the request is late", net.request(0, 0), 3);
        net.ask(1, 0, 0, 9);
        Check.carry(net, 2, 0, 1);
        Check.due("with an entry it is kept", net.waiting(1, 1), 1);
        Check.due("and answers", net.request(1, 0), 1);
    }

    /** The data of one entry's errand is the name of another entry, whose errand is elsewhere. */
    private static void aDataAtAFaceWithoutAnErrandIsLost() {
        Check.says("that it answers and that has an errand for f is gone");
        NameNet net = Nets.star(2, 0, 6, 9);
        int a = Check.make(net, "/a");
        Nets.tell(net, 1, 0);
        Nets.tell(net, 2, a);
        net.publish(1, a, 5, 0);
        net.ask(0, a, 0, 9);
        Check.due("out of face 1", net.waiting(0, 3), 1);
        net.ask(0, 0, 1, 9);
        Check.carry(net, 0, 0, 0);
        Check.carry(net, 1, 0, 1);
        Check.due("the entry of face 0 is answered", net.request(1, 0), 1);
        Check.due("the entry of face 1 is not", net.request(0, 0), 0);
        Check.due("it stays", net.waiting(0, 0), 1);
    }

    private static void aDataEndsAllEntriesThatItAnswers() {
        Check.says("each entry, in their order, that it answers and that has an errand for f");
        NameNet net = Nets.pair(3, 6, 9);
        int ab = Check.make(net, "/a/b");
        net.publish(1, ab, 5, 0);
        net.ask(0, 0, 1, 9);
        net.ask(0, 0, 3, 9);
        net.ask(0, 0, 0, 9);
        net.ask(0, net.parent(ab), 1, 9);
        net.ask(0, ab, 0, 9);
        net.ask(0, ab, 2, 9);
        Check.carry(net, 0, 0, 0);
        Check.carry(net, 1, 0, 1);
        for (int request = 0; request < 6; request++) {
            Check.due("request " + request, net.request(request, 0), request == 2 ? 0 : 1);
        }
        Check.due("one entry stays", net.waiting(0, 0), 1);
        Check.due("the data is kept once", net.waiting(0, 1), 1);
    }

    /** Node 1's answer is doubled as a nack first, so that its data finds the errand nacked. */
    private static void aDataEndsAnEntryWhoseErrandWasNacked() {
        Check.says("and that has an errand for f is gone, and the DATA is sent out of each face");
        NameNet net = Nets.star(2, 0, 6, 9);
        Nets.tell(net, 1, 0);
        Nets.tell(net, 2, 0);
        net.ask(0, 0, 0, 9);
        net.alter(0, 0, true);
        Check.carry(net, 0, 0, 0);
        Check.carry(net, 1, 0, 2);
        Check.due("nacked, the next face is out", net.waiting(0, 3), 1);
        net.publish(1, 0, 5, 0);
        Check.carry(net, 0, 0, 0);
        Check.carry(net, 1, 0, 1);
        Check.request(net, 0, 1, 0, 5);
        Check.due("gone", net.waiting(0, 0), 0);
    }

    private static void aDataIsSentOutOfEachFaceWithAnAsk() {
        Check.says("the DATA is sent out of each face that had an ask in it");
        NameNet net = Nets.star(4, 0, 6, 9);
        net.announce(4, 0, true);
        Check.carry(net, 4, 0, 3);
        for (int face = 0; face < 3; face++) {
            Check.carry(net, 0, face, 3);
        }
        net.publish(4, 0, 5, 0);
        net.ask(0, 0, 0, 9);
        for (int node = 1; node <= 2; node++) {
            net.ask(node, 0, 0, 9);
            Check.carry(net, node, 0, 0);
        }
        Check.carry(net, 0, 3, 0);
        Check.carry(net, 4, 0, 1);
        Check.due("face 4", net.request(0, 0), 1);
        Check.due("face 0", net.waiting(0, 2), 1);
        Check.due("face 1", net.waiting(0, 3), 1);
        Check.due("face 2 had no ask", net.waiting(0, 4), 0);
        Check.due("face 3 had the errand", net.waiting(0, 5), 0);
    }

    private static void aDataIsNotSentOutOfAFaceWhoseAskEnded() {
        Check.says("asks that end NOW or ended before are gone");
        NameNet net = Nets.line(0, 6, 2);
        net.publish(2, 0, 5, 0);
        net.ask(0, 0, 0, 9);
        Check.carry(net, 0, 0, 0);
        net.tick();
        net.ask(1, 0, 0, 9);
        Check.carry(net, 1, 1, 0);
        net.tick();
        Check.carry(net, 2, 0, 1);
        Check.due("face 4 is answered", net.request(1, 0), 1);
        Check.due("face 0 is not", net.waiting(1, 2), 0);
    }

    private static void aNackWithoutAnEntryIsNothing() {
        Check.says("WHEN A NACK COMES at face f: if there is an entry of its name and flags");
        NameNet net = Nets.line(0, 6, 1);
        net.ask(0, 0, 0, 9);
        Check.carry(net, 0, 0, 0);
        Check.carry(net, 1, 1, 0);
        net.tick();
        Check.carry(net, 2, 0, 2);
        Check.due("nothing is sent on", net.waiting(1, 2), 0);
        Check.due("no entry", net.waiting(1, 0), 0);
    }

    /** Both entries have an errand of face 0; only that of the nack's flags fails. */
    private static void aNackOfOtherFlagsIsNothing() {
        Check.says("an entry of its name and flags with an errand for f of its nonce");
        NameNet net = Nets.pair(0, 6, 9);
        for (int flags = 0; flags <= 3; flags++) {
            net.ask(0, 0, flags, 9);
        }
        for (int flags = 0; flags <= 3; flags++) {
            Check.carry(net, 0, 0, 0);
            Check.carry(net, 1, 0, 2);
            for (int other = 0; other <= 3; other++) {
                Check.due("request " + other, net.request(other, 0), other <= flags ? 2 : 0);
            }
        }
    }

    /** An old errand's nack comes at face 1 while the new entry has its errand at face 0. */
    private static void aNackAtAnotherFaceIsNothing() {
        Check.says("with an errand for f of its nonce");
        NameNet net = Nets.star(2, 0, 6, 1);
        Nets.tell(net, 2, 0);
        net.ask(0, 0, 0, 9);
        Check.carry(net, 0, 1, 0);
        net.tick();
        Nets.tell(net, 1, 0);
        net.ask(0, 0, 0, 9);
        Check.due("out of face 0", net.waiting(0, 2), 1);
        Check.carry(net, 2, 0, 2);
        Check.due("it waits", net.request(1, 0), 0);
        Check.due("and face 1 is not taken", net.waiting(0, 3), 0);
    }

    private static void aNackOfAnotherNonceIsNothing() {
        Check.says("of its nonce that is not nacked");
        NameNet net = Nets.pair(0, 6, 1);
        net.ask(0, 0, 0, 9);
        Check.carry(net, 0, 0, 0);
        net.tick();
        net.ask(0, 0, 0, 9);
        Check.carry(net, 1, 0, 2);
        Check.due("the old nonce: it waits", net.request(1, 0), 0);
        Check.carry(net, 0, 0, 0);
        Check.carry(net, 1, 0, 2);
        Check.due("its own nonce", net.request(1, 0), 2);
    }

    private static void aSecondNackIsNothing() {
        Check.says("that is not nacked: it is nacked now");
        NameNet net = Nets.star(3, 0, 6, 9);
        for (int node = 1; node <= 3; node++) {
            Nets.tell(net, node, 0);
        }
        net.ask(0, 0, 0, 9);
        Check.carry(net, 0, 0, 0);
        net.alter(1, 0, true);
        Check.carry(net, 1, 0, 2);
        Check.due("face 1 is taken", net.waiting(0, 3), 1);
        Check.carry(net, 1, 0, 2);
        Check.due("face 2 is not", net.waiting(0, 4), 0);
    }

    /** The latest interest is the one that only waits; the nack is of an older one. */
    private static void aNackPassesOnWithTheLatestHops() {
        Check.says("with the hops, as it came, of the latest interest that gave the entry an ask");
        for (int hops = 1; hops <= 2; hops++) {
            NameNet net = Nets.star(3, 0, 6, 9);
            net.announce(0, 0, true);
            Check.carry(net, 0, 2, 3);
            net.announce(0, 0, false);
            Nets.tell(net, 1, 0);
            Nets.tell(net, 2, 0);
            net.ask(0, 0, 0, 9);
            net.ask(3, 0, 0, hops);
            Check.carry(net, 3, 0, 0);
            Check.carry(net, 0, 0, 0);
            Check.carry(net, 1, 0, 2);
            Check.due("hops 0 as it came, or 1", net.waiting(0, 3), hops - 1);
            Check.due("failed, or out", net.request(0, 0), hops == 1 ? 2 : 0);
            Check.due("so is the latest", net.waiting(0, 4), hops == 1 ? 1 : 0);
        }
    }

    /** Both askers take their nack for their own: each has the nonce of its own errand. */
    private static void aFailureNacksWithEachAskersNonce() {
        Check.says("a NACK with its name, flags and that face's ask's nonce is sent out of each");
        NameNet net = Nets.star(3, 0, 6, 9);
        net.announce(3, 0, true);
        Check.carry(net, 3, 0, 3);
        Check.carry(net, 0, 0, 3);
        Check.carry(net, 0, 1, 3);
        net.ask(1, 0, 3, 9);
        net.ask(2, 0, 3, 9);
        net.ask(0, 0, 3, 9);
        Check.carry(net, 2, 0, 0);
        Check.carry(net, 1, 0, 0);
        Check.carry(net, 0, 2, 0);
        Check.carry(net, 3, 0, 2);
        Check.due("face 4", net.request(2, 0), 2);
        Check.carry(net, 0, 0, 2);
        Check.due("face 0", net.request(0, 0), 2);
        Check.carry(net, 0, 1, 2);
        Check.due("face 1", net.request(1, 0), 2);
        Check.due("nothing out of face 2", net.waiting(0, 4), 0);
    }

    private static void aNackRefusesAllWaitingRequests() {
        Check.says("A NACK: each such request, whenever it came, is REFUSED.");
        NameNet net = Nets.pair(0, 6, 2);
        net.ask(0, 0, 0, 9);
        net.tick();
        net.ask(0, 0, 0, 9);
        net.ask(0, 0, 0, 9);
        net.tick();
        net.ask(0, 0, 1, 9);
        Check.carry(net, 0, 0, 0);
        Check.carry(net, 1, 0, 2);
        Check.due("late stays late", net.request(0, 0), 3);
        Check.due("waiting", net.request(1, 0), 2);
        Check.due("waiting, too", net.request(2, 0), 2);
        Check.due("other flags", net.request(3, 0), 0);
    }

    private static void aDataAnswersWaitingRequestsAlone() {
        Check.says("each waiting request of this node with the entry's");
        NameNet net = Nets.pair(1, 6, 2);
        int a = Check.make(net, "/a");
        net.ask(0, a, 0, 9);
        Check.carry(net, 0, 0, 0);
        Check.carry(net, 1, 0, 2);
        net.ask(0, a, 0, 9);
        net.tick();
        net.ask(0, a, 0, 9);
        net.ask(0, a, 1, 9);
        net.ask(2, a, 0, 9);
        net.tick();
        net.publish(1, a, 5, 9);
        Check.carry(net, 0, 0, 0);
        Check.carry(net, 1, 0, 1);
        Check.request(net, 0, 2, -1, 0);
        Check.request(net, 1, 3, -1, 0);
        Check.request(net, 2, 1, a, 5);
        Check.due("of other flags, by its own entry", net.request(3, 0), 1);
        Check.request(net, 4, 2, -1, 0);
    }

    /** The first waits for face 0, where the data did not come: the entry of face 1 had it kept. */
    private static void aStoredDataAnswersWaitingRequestsToo() {
        Check.says("(or, from the store, the interest's) name and flags is ANSWERED with it");
        NameNet net = Nets.star(2, 1, 6, 9);
        int a = Check.make(net, "/a");
        Nets.tell(net, 1, a);
        Nets.tell(net, 2, 0);
        net.publish(2, a, 5, 0);
        net.ask(0, a, 0, 9);
        net.ask(0, a, 1, 9);
        net.ask(0, 0, 1, 9);
        Check.carry(net, 0, 1, 0);
        Check.carry(net, 2, 0, 1);
        Check.request(net, 2, 1, a, 5);
        Check.request(net, 0, 0, -1, 0);
        net.ask(0, a, 0, 9);
        Check.request(net, 3, 1, a, 5);
        Check.request(net, 0, 1, a, 5);
        Check.request(net, 1, 0, -1, 0);
        Check.due("the entries stay", net.waiting(0, 0), 2);
    }

    private static void nowCountsAllTicks() {
        Check.says("NOW counts ticks, from 0 on.");
        NameNet net = Nets.pair(1, 6, 9);
        net.publish(1, 0, 5, 20);
        for (int i = 0; i < 400; i++) {
            Check.due("no entry to end", net.tick(), 0);
        }
        net.ask(0, 0, 0, 9);
        for (int i = 0; i < 8; i++) {
            net.tick();
        }
        Check.due("it waits for eight ticks", net.request(0, 0), 0);
        Check.carry(net, 0, 0, 0);
        Check.carry(net, 1, 0, 1);
        Check.request(net, 0, 1, 0, 5);
        for (int i = 0; i < 19; i++) {
            net.tick();
        }
        Check.due("fresh for 19 ticks", net.request(net.ask(0, 0, 2, 0), 0), 1);
        net.tick();
        Check.due("not for 20", net.request(net.ask(0, 0, 2, 0), 0), 2);
        Check.due("nothing was late", net.request(0, 0), 1);
    }

    private static void requestsAreLateAfterLifeTicks() {
        Check.says("requests that wait for LIFE ticks or longer are late");
        NameNet net = Nets.pair(0, 6, 3);
        for (int i = 0; i < 4; i++) {
            net.ask(0, 0, i, 9);
            net.tick();
        }
        Check.due("four ticks", net.request(0, 0), 3);
        Check.due("three ticks", net.request(1, 0), 3);
        Check.due("two ticks", net.request(2, 0), 0);
        Check.due("one tick", net.request(3, 0), 0);
    }

    private static void tickEndsAsksThatEndNow() {
        Check.says("asks that end NOW or ended before are gone, and entries without asks are gone");
        NameNet net = Nets.pair(0, 6, 3);
        net.ask(0, 0, 0, 9);
        Check.due("one", net.tick(), 0);
        net.ask(0, 0, 1, 9);
        Check.due("two", net.tick(), 0);
        Check.due("three: the first", net.tick(), 1);
        Check.due("the second is there", net.waiting(0, 0), 1);
        Check.due("four: the second", net.tick(), 1);
        Check.due("five: none", net.tick(), 0);
    }

    private static void tickLeavesEntriesWithAsks() {
        Check.says("entries without asks are gone");
        NameNet net = Nets.line(0, 6, 2);
        net.ask(1, 0, 0, 9);
        net.tick();
        net.ask(0, 0, 0, 9);
        Check.carry(net, 0, 0, 0);
        Check.due("face 4's ask ends, face 0's holds", net.tick(), 0);
        Check.due("there", net.waiting(1, 0), 1);
        Check.due("face 0's ends, at both nodes", net.tick(), 2);
    }

    private static void tickCountsTheEntriesOfAllNodes() {
        Check.says("How many entries are gone by it.");
        NameNet net = new NameNet(0, 6, 1);
        for (int node = 0; node < 4; node++) {
            net.link(node, 0, node + 1, 1);
        }
        net.announce(4, 0, true);
        for (int node = 4; node > 0; node--) {
            Check.carry(net, node, 1, 3);
        }
        Check.due("none", net.tick(), 0);
        for (int flags = 0; flags <= 3; flags++) {
            for (int node = 0; node < 4; node++) {
                net.ask(node, 0, flags, 9);
            }
        }
        Check.due("four at each of four nodes", net.tick(), 16);
        Check.due("none is left", net.tick(), 0);
    }

    private static void tickSendsNothing() {
        Check.says("(nothing is sent)");
        NameNet net = Nets.line(0, 6, 1);
        net.ask(0, 0, 0, 9);
        Check.carry(net, 0, 0, 0);
        Check.due("gone at both nodes", net.tick(), 2);
        Check.due("by node 1 to node 0", net.waiting(1, 2), 0);
        Check.due("by node 1 to node 2: its interest alone", net.waiting(1, 3), 1);
        Check.due("the request is late, not refused", net.request(0, 0), 3);
    }

    private static void requestRefusesRequestsThatAreNone() {
        Check.says("NONE if there is no such request");
        NameNet net = new NameNet(1, 1, 1);
        for (int what = 0; what <= 2; what++) {
            Check.due("none yet", net.request(0, what), -1);
        }
        net.ask(0, 0, 0, 0);
        for (int what = 0; what <= 2; what++) {
            for (int none : new int[] {Integer.MIN_VALUE, -1, 1, 120, Integer.MAX_VALUE}) {
                Check.due("request " + none, net.request(none, what), -1);
            }
        }
        Check.due("request 0", net.request(0, 0), 2);
    }

    private static void requestRefusesWhatsThatAreNone() {
        Check.says("NONE if there is no such request or what.");
        NameNet net = new NameNet(1, 1, 1);
        net.announce(0, 0, true);
        net.publish(0, 0, 7, 0);
        net.ask(0, 0, 0, 0);
        for (int none : new int[] {Integer.MIN_VALUE, -1, 3, 4, Integer.MAX_VALUE}) {
            Check.due("what " + none, net.request(0, none), -1);
        }
        Check.request(net, 0, 1, 0, 7);
    }

    private static void aRequestThatIsNotAnsweredHasNoNameAndContentZero() {
        Check.says("NONE and 0 if it was not");
        NameNet net = Nets.pair(0, 1, 1);
        net.ask(0, 0, 0, 9);
        Check.request(net, 0, 0, -1, 0);
        net.tick();
        Check.request(net, 0, 3, -1, 0);
        net.ask(2, 0, 0, 9);
        Check.request(net, 1, 2, -1, 0);
    }
}
