/** The boundaries of promises 13 fetch, 14 pump, 15 fetched. */
public final class FetchBoundsTest {
    private static final int[] NO_NODES = {Integer.MIN_VALUE, -1, 5, 6, Integer.MAX_VALUE};

    public static void main(String[] args) {
        fetchRefusesNodesAndNamesThatAreNone();
        fetchRefusesCountsOutside1To10();
        fetchRefusesWindowsOutside1To4();
        fetchRefusesANameOfFourComponents();
        fetchRefusesMoreThan48Names();
        fetchNeedsRoomForWhatIsNotThereAlone();
        aRefusedFetchMakesNoneAndLeavesTheOlderOne();
        segmentsAreMadeInTheirOrder();
        anOlderFetchIsGone();
        aNewFetchIsNotBrokenAndHasNoTries();
        anotherNodesFetchStays();
        pumpRefusesNodesThatAreNone();
        pumpRefusesANodeWithoutAFetch();
        pumpRefusesABrokenFetch();
        pumpRefusesWhenAllIsHadAheadOfTheRound();
        pumpAsksLessThanTheWindow();
        tenSegmentsCanBeHad();
        whatIsAnsweredAtOnceIsAskedInThisRound();
        anAnsweredSegmentIsNotAskedAgain();
        aWaitingSegmentStaysAsked();
        aRefusedSegmentIsWantedAgain();
        aLateSegmentIsWantedAgain();
        threeTriesBreakTheFetch();
        theThirdTryMayBeAnswered();
        allAreLookedAtWhenOneBreaks();
        aBrokenFetchAsksNothingInItsRound();
        aRefusedAskEndsTheRound();
        aRefusedAskIsNoTry();
        pumpAsksWithFlags0AndHops9();
        fetchedRefusesNodesThatAreNone();
        fetchedRefusesANodeWithoutAFetch();
        fetchedRefusesWhatsThatAreNone();
        theSumIsOfThoseHadAlone();
        theSumWraps();
        Check.end();
    }

    private static void fetched(NameNet net, int had, int asked, int broken, int sum) {
        Check.due("had", net.fetched(0, 0), had);
        Check.due("asked", net.fetched(0, 1), asked);
        Check.due("broken", net.fetched(0, 2), broken);
        Check.due("sum", net.fetched(0, 3), sum);
    }

    /** Node 0 makes all names known and published segments 0 .. count - 1 of name 0: 1, 2, 4 .. */
    private static NameNet producer(int count, int window) {
        NameNet net = new NameNet(0, 6, 9);
        net.announce(0, 0, true);
        Check.due("fetch", net.fetch(0, 0, count, window), true);
        for (int i = 0; i < count; i++) {
            net.publish(0, 1 + i, 1 << i, 0);
        }
        return net;
    }

    private static void fetchRefusesNodesAndNamesThatAreNone() {
        Check.says("False if there is no such node or name");
        NameNet net = new NameNet(1, 1, 1);
        for (int none : NO_NODES) {
            Check.due("node " + none, net.fetch(none, 0, 1, 1), false);
        }
        for (int none : new int[] {Integer.MIN_VALUE, -1, 1, 48, Integer.MAX_VALUE}) {
            Check.due("name " + none, net.fetch(0, none, 1, 1), false);
        }
        Check.due("no name was made", net.parent(1), -1);
        Check.due("node 4", net.fetch(4, 0, 1, 1), true);
        Check.due("node 0 and the name made", net.fetch(0, 1, 1, 1), true);
    }

    private static void fetchRefusesCountsOutside1To10() {
        Check.says("count is not 1 .. 10");
        NameNet net = new NameNet(1, 1, 1);
        for (int none : new int[] {Integer.MIN_VALUE, -1, 0, 11, Integer.MAX_VALUE}) {
            Check.due("count " + none, net.fetch(0, 0, none, 1), false);
        }
        Check.due("no name was made", net.parent(1), -1);
        Check.due("count 1", net.fetch(0, 0, 1, 1), true);
        Check.due("one name", net.parent(2), -1);
        Check.due("count 10", net.fetch(0, 0, 10, 1), true);
        Check.due("ten names", net.parent(10), 0);
        Check.due("no eleventh", net.parent(11), -1);
    }

    private static void fetchRefusesWindowsOutside1To4() {
        Check.says("window not 1 .. 4");
        NameNet net = new NameNet(1, 1, 1);
        for (int none : new int[] {Integer.MIN_VALUE, -1, 0, 5, Integer.MAX_VALUE}) {
            Check.due("window " + none, net.fetch(0, 0, 1, none), false);
        }
        Check.due("no name was made", net.parent(1), -1);
        Check.due("window 1", net.fetch(0, 0, 1, 1), true);
        Check.due("window 4", net.fetch(0, 0, 1, 4), true);
    }

    private static void fetchRefusesANameOfFourComponents() {
        Check.says("the name has four components");
        NameNet net = new NameNet(1, 1, 1);
        int d = Check.make(net, "/a/b/c/d");
        Check.due("four", net.fetch(0, d, 1, 1), false);
        Check.due("none was made", net.parent(d + 1), -1);
        Check.due("three", net.fetch(0, net.parent(d), 1, 1), true);
        Check.due("/a/b/c/0", Check.name(net, "/a/b/c/0"), d + 1);
        Check.due("four again", net.fetch(0, d + 1, 1, 1), false);
    }

    private static void fetchRefusesMoreThan48Names() {
        Check.says("or there would be more than 48 names");
        NameNet net = new NameNet(1, 1, 1);
        int a = Check.make(net, "/a");
        Nets.fillNames(net, 45);
        Check.due("four more", net.fetch(0, 44, 4, 1), false);
        Check.due("none of them is made", net.parent(45), -1);
        Check.due("three more", net.fetch(0, 44, 3, 1), true);
        Check.due("48", net.parent(47), 44);
        Check.due("one more", net.fetch(0, 44, 4, 1), false);
        Check.due("the first of another name", net.fetch(0, 43, 1, 1), false);
        Check.due("no name 48", net.parent(48), -1);
        Check.due("/a is there", Check.name(net, "/a"), a);
    }

    private static void fetchNeedsRoomForWhatIsNotThereAlone() {
        Check.says("which are made if they are not there");
        NameNet net = new NameNet(1, 1, 1);
        int two = Check.make(net, "/a/2");
        int four = Check.make(net, "/a/4");
        Nets.fillNames(net, 44);
        Check.due("four of six", net.fetch(0, net.parent(two), 6, 1), true);
        Check.due("48", net.parent(47), net.parent(two));
        Check.due("all are there", net.fetch(0, net.parent(two), 6, 4), true);
        Check.due("the name that was there", Check.name(net, "/a/4"), four);
    }

    private static void aRefusedFetchMakesNoneAndLeavesTheOlderOne() {
        Check.says("(the older one stays)");
        NameNet net = producer(3, 2);
        net.pump(0);
        net.pump(0);
        fetched(net, 2, 1, 0, 3);
        Nets.fillNames(net, 47);
        int[][] refused = {{0, 99, 1, 1}, {0, 0, 0, 1}, {0, 0, 11, 1}, {0, 0, 3, 0}, {0, 0, 3, 5},
            {0, 46, 2, 1}};
        for (int[] f : refused) {
            Check.due("refused", net.fetch(f[0], f[1], f[2], f[3]), false);
            fetched(net, 2, 1, 0, 3);
        }
        Check.due("none was made", net.parent(47), -1);
        Check.due("it goes on", net.pump(0), 0);
        fetched(net, 3, 0, 0, 7);
    }

    private static void segmentsAreMadeInTheirOrder() {
        Check.says("SEGMENT i (0 .. 9) of a name is the name with one more");
        NameNet net = new NameNet(1, 1, 1);
        int five = Check.make(net, "/v/5");
        int v = net.parent(five);
        net.fetch(0, v, 10, 1);
        for (int i = 0; i < 10; i++) {
            int want = i == 5 ? five : i < 5 ? five + 1 + i : five + i;
            Check.due("/v/" + i, Check.name(net, "/v/" + i), want);
            Check.due("its parent", net.parent(want), v);
        }
        net.fetch(0, 0, 10, 1);
        for (int i = 0; i < 10; i++) {
            Check.due("/" + i, Check.name(net, "/" + i), 12 + i);
        }
    }

    private static void anOlderFetchIsGone() {
        Check.says("an older fetch of the node is gone");
        NameNet net = producer(3, 2);
        net.pump(0);
        net.pump(0);
        fetched(net, 2, 1, 0, 3);
        Check.due("the same once more", net.fetch(0, 0, 3, 2), true);
        fetched(net, 0, 0, 0, 0);
        Check.due("its segments are wanted", net.pump(0), 2);
        Check.due("one of less", net.fetch(0, 0, 1, 1), true);
        Check.due("asked", net.pump(0), 1);
        Check.due("had", net.pump(0), 0);
        fetched(net, 1, 0, 0, 1);
        Check.due("all", net.pump(0), -3);
    }

    private static void aNewFetchIsNotBrokenAndHasNoTries() {
        Check.says("is wanted (at first), ASKED (by a request) or HAD, and has TRIES (0 at first)");
        NameNet net = new NameNet(0, 6, 9);
        for (int round = 0; round < 2; round++) {
            Check.due("fetch", net.fetch(0, 0, 1, 1), true);
            fetched(net, 0, 0, 0, 0);
            for (int tries = 1; tries <= 3; tries++) {
                Check.due("try " + tries, net.pump(0), 1);
            }
            Check.due("the round in which it breaks", net.pump(0), 0);
            fetched(net, 0, 0, 1, 0);
        }
    }

    private static void anotherNodesFetchStays() {
        Check.says("A node can have a FETCH of a name");
        NameNet net = producer(3, 2);
        net.pump(0);
        for (int node = 1; node < 5; node++) {
            Check.due("fetch at node " + node, net.fetch(node, 0, 1, 1), true);
            fetched(net, 0, 2, 0, 0);
        }
        Check.due("pump at node 1", net.pump(1), 1);
        fetched(net, 0, 2, 0, 0);
    }

    private static void pumpRefusesNodesThatAreNone() {
        Check.says("Refused: -1 if there is no such node");
        NameNet net = producer(1, 1);
        net.fetch(4, 0, 1, 1);
        for (int none : NO_NODES) {
            Check.due("node " + none, net.pump(none), -1);
        }
        Check.due("node 0", net.pump(0), 1);
        Check.due("node 4", net.pump(4), 1);
    }

    private static void pumpRefusesANodeWithoutAFetch() {
        Check.says("or it has no fetch");
        NameNet net = producer(1, 1);
        for (int node = 1; node < 5; node++) {
            Check.due("node " + node, net.pump(node), -1);
        }
        Check.due("refused", net.fetch(1, 0, 0, 1), false);
        Check.due("none by a refused fetch", net.pump(1), -1);
    }

    private static void pumpRefusesABrokenFetch() {
        Check.says("-2 if that is broken");
        NameNet net = new NameNet(0, 6, 9);
        net.fetch(0, 0, 1, 1);
        for (int i = 0; i < 3; i++) {
            Check.due("a try", net.pump(0), 1);
        }
        Check.due("not broken ahead of this round", net.pump(0), 0);
        Check.due("broken", net.pump(0), -2);
        Check.due("broken still", net.pump(0), -2);
        Check.due("no more requests", net.request(3, 0), -1);
    }

    private static void pumpRefusesWhenAllIsHadAheadOfTheRound() {
        Check.says("-3 if all is had (ahead of this round)");
        NameNet net = producer(2, 2);
        Check.due("asked", net.pump(0), 2);
        Check.due("had in this round", net.pump(0), 0);
        fetched(net, 2, 0, 0, 3);
        Check.due("had ahead of this round", net.pump(0), -3);
        Check.due("and of the next", net.pump(0), -3);
    }

    private static void pumpAsksLessThanTheWindow() {
        Check.says("as long as less than WINDOW are asked");
        for (int window = 1; window <= 4; window++) {
            for (int count = 1; count <= 6; count++) {
                NameNet net = Nets.pair(0, 6, 9);
                net.fetch(0, 0, count, window);
                int most = Math.min(window, count);
                Check.due("asked", net.pump(0), most);
                fetched(net, 0, most, 0, 0);
                Check.due("no more while they wait", net.pump(0), 0);
                Check.due("the last request", net.request(most - 1, 0), 0);
                Check.due("no more requests", net.request(most, 0), -1);
            }
        }
    }

    private static void tenSegmentsCanBeHad() {
        Check.says("Begins a fetch at a node of segments 0 .. count - 1 of a name");
        NameNet net = producer(10, 4);
        for (int had = 0; had <= 8; had += 4) {
            Check.due("asked", net.pump(0), Math.min(4, 10 - had));
            fetched(net, had, Math.min(4, 10 - had), 0, (1 << had) - 1);
        }
        Check.due("none is left to ask", net.pump(0), 0);
        fetched(net, 10, 0, 0, 1023);
        Check.due("all is had", net.pump(0), -3);
    }

    private static void whatIsAnsweredAtOnceIsAskedInThisRound() {
        Check.says("How many were asked.");
        NameNet net = producer(5, 2);
        Check.due("the window, though both are answered", net.pump(0), 2);
        Check.due("answered", net.request(1, 0), 1);
        fetched(net, 0, 2, 0, 0);
        Check.due("the next two", net.pump(0), 2);
        fetched(net, 2, 2, 0, 3);
        Check.due("the last", net.pump(0), 1);
        fetched(net, 4, 1, 0, 15);
        Check.due("none", net.pump(0), 0);
        fetched(net, 5, 0, 0, 31);
    }

    private static void anAnsweredSegmentIsNotAskedAgain() {
        Check.says("if its request was answered, it is had");
        NameNet net = producer(2, 1);
        net.pump(0);
        Check.due("the second", net.pump(0), 1);
        fetched(net, 1, 1, 0, 1);
        net.tick();
        net.pump(0);
        fetched(net, 2, 0, 0, 3);
        Check.due("two requests", net.request(2, 0), -1);
    }

    private static void aWaitingSegmentStaysAsked() {
        Check.says("First, for each asked segment, the lowest first");
        NameNet net = Nets.pair(0, 6, 9);
        net.fetch(0, 0, 2, 2);
        net.publish(1, 2, 8, 0);
        net.pump(0);
        net.alter(0, 0, false);
        Check.carry(net, 0, 0, 0);
        Check.carry(net, 1, 0, 1);
        Check.due("the second is had, the first waits", net.pump(0), 0);
        fetched(net, 1, 1, 0, 8);
    }

    private static void aRefusedSegmentIsWantedAgain() {
        Check.says("if that was refused or is late, it is wanted again");
        NameNet net = Nets.pair(0, 6, 9);
        net.fetch(0, 0, 1, 1);
        net.pump(0);
        Check.carry(net, 0, 0, 0);
        Check.carry(net, 1, 0, 2);
        fetched(net, 0, 1, 0, 0);
        net.publish(1, 1, 8, 0);
        Check.due("asked again in this round", net.pump(0), 1);
        fetched(net, 0, 1, 0, 0);
        Check.carry(net, 0, 0, 0);
        Check.carry(net, 1, 0, 1);
        Check.due("had", net.pump(0), 0);
        fetched(net, 1, 0, 0, 8);
    }

    private static void aLateSegmentIsWantedAgain() {
        Check.says("or is late, it is wanted again");
        NameNet net = Nets.pair(0, 6, 2);
        net.fetch(0, 0, 1, 1);
        net.pump(0);
        net.tick();
        Check.due("it waits", net.pump(0), 0);
        net.tick();
        Check.due("late: asked again", net.pump(0), 1);
        Check.due("by a second request", net.request(1, 0), 0);
    }

    private static void threeTriesBreakTheFetch() {
        Check.says("and if it has three tries, the fetch is broken");
        NameNet net = new NameNet(0, 6, 9);
        net.fetch(0, 0, 1, 1);
        for (int tries = 1; tries <= 3; tries++) {
            Check.due("try " + tries, net.pump(0), 1);
            fetched(net, 0, 1, 0, 0);
        }
        Check.due("no fourth try", net.pump(0), 0);
        fetched(net, 0, 0, 1, 0);
        NameNet late = Nets.pair(0, 6, 1);
        late.fetch(0, 0, 1, 1);
        for (int tries = 1; tries <= 3; tries++) {
            Check.due("late try " + tries, late.pump(0), 1);
            late.tick();
        }
        Check.due("no fourth late try", late.pump(0), 0);
        fetched(late, 0, 0, 1, 0);
    }

    private static void theThirdTryMayBeAnswered() {
        Check.says("if that was refused or is late, it is wanted again, and if it has three tries");
        NameNet net = new NameNet(0, 6, 9);
        net.fetch(0, 0, 2, 1);
        net.pump(0);
        net.pump(0);
        net.announce(0, 0, true);
        net.publish(0, 1, 8, 0);
        Check.due("the third try", net.pump(0), 1);
        Check.due("the second segment", net.pump(0), 1);
        fetched(net, 1, 1, 0, 8);
        Check.due("its tries are its own", net.pump(0), 1);
        Check.due("its third", net.pump(0), 1);
        Check.due("broken by it", net.pump(0), 0);
        fetched(net, 1, 0, 1, 8);
    }

    /** The second segment's request is answered in the round in which the first breaks all. */
    private static void allAreLookedAtWhenOneBreaks() {
        Check.says("the fetch is broken (all are looked at)");
        NameNet net = new NameNet(0, 6, 9);
        net.fetch(0, 0, 3, 3);
        net.pump(0);
        net.pump(0);
        net.announce(0, 0, true);
        net.publish(0, 2, 8, 0);
        Check.due("the third try of all", net.pump(0), 3);
        Check.due("broken", net.pump(0), 0);
        fetched(net, 1, 0, 1, 8);
    }

    private static void aBrokenFetchAsksNothingInItsRound() {
        Check.says("Then, if it is not broken, for each wanted segment");
        NameNet net = new NameNet(0, 6, 9);
        net.fetch(0, 0, 2, 1);
        for (int tries = 1; tries <= 3; tries++) {
            net.pump(0);
        }
        Check.due("the second segment is wanted still", net.pump(0), 0);
        fetched(net, 0, 0, 1, 0);
        Check.due("three requests", net.request(3, 0), -1);
    }

    private static NameNet almostAllRequests(int free) {
        NameNet net = new NameNet(0, 6, 9);
        for (int i = 0; i < 120 - free; i++) {
            net.ask(1, 0, 0, 0);
        }
        return net;
    }

    private static void aRefusedAskEndsTheRound() {
        Check.says("when ask is refused, it stays wanted (without the try), and the round ends");
        for (int free = 0; free <= 3; free++) {
            NameNet net = almostAllRequests(free);
            net.fetch(0, 0, 3, 3);
            Check.due("asked", net.pump(0), free);
            fetched(net, 0, free, 0, 0);
        }
    }

    private static void aRefusedAskIsNoTry() {
        Check.says("it stays wanted (without the try)");
        NameNet net = almostAllRequests(1);
        net.fetch(0, 0, 1, 1);
        Check.due("one has room", net.pump(0), 1);
        for (int i = 0; i < 5; i++) {
            Check.due("none has room", net.pump(0), 0);
            fetched(net, 0, 0, 0, 0);
        }
    }

    private static void pumpAsksWithFlags0AndHops9() {
        Check.says("with flags 0 and hops 9, as by ask");
        NameNet net = Nets.pair(0, 6, 9);
        net.fetch(0, 0, 1, 1);
        int below = Check.make(net, "/0/x");
        net.publish(1, below, 8, 0);
        net.pump(0);
        net.ask(0, 1, 0, 9);
        Check.due("the entry of flags 0 is there", net.waiting(0, 0), 1);
        Check.carry(net, 0, 0, 0);
        Check.carry(net, 1, 0, 2);
        Check.due("a longer name does not answer", net.request(0, 0), 2);
        NameNet far = new NameNet(0, 6, 9);
        for (int node = 0; node < 4; node++) {
            far.link(node, 0, node + 1, 1);
        }
        far.announce(4, 0, true);
        for (int node = 4; node > 0; node--) {
            Check.carry(far, node, 1, 3);
        }
        far.fetch(0, 0, 1, 1);
        far.pump(0);
        for (int node = 0; node < 4; node++) {
            Check.carry(far, node, 0, 0);
        }
    }

    private static void fetchedRefusesNodesThatAreNone() {
        Check.says("NONE if there is no such node");
        NameNet net = producer(1, 1);
        net.fetch(4, 0, 1, 1);
        for (int none : NO_NODES) {
            for (int what = 0; what <= 3; what++) {
                Check.due("node " + none, net.fetched(none, what), -1);
            }
        }
        Check.due("node 4", net.fetched(4, 0), 0);
    }

    private static void fetchedRefusesANodeWithoutAFetch() {
        Check.says("no fetch there");
        NameNet net = producer(1, 1);
        for (int what = 0; what <= 3; what++) {
            for (int node = 1; node < 5; node++) {
                Check.due("node " + node, net.fetched(node, what), -1);
            }
            Check.due("node 0", net.fetched(0, what), 0);
        }
    }

    private static void fetchedRefusesWhatsThatAreNone() {
        Check.says("or what is none of these");
        NameNet net = producer(1, 1);
        for (int none : new int[] {Integer.MIN_VALUE, -1, 4, 5, Integer.MAX_VALUE}) {
            Check.due("what " + none, net.fetched(0, none), -1);
        }
    }

    private static void theSumIsOfThoseHadAlone() {
        Check.says("the sum of the contents of those had");
        NameNet net = producer(3, 3);
        net.pump(0);
        Check.due("answered, not had yet", net.fetched(0, 3), 0);
        net.pump(0);
        Check.due("had", net.fetched(0, 3), 7);
    }

    private static void theSumWraps() {
        Check.says("(3, which wraps)");
        int[][] contents = {{Integer.MAX_VALUE, 1}, {Integer.MIN_VALUE, -1},
            {Integer.MIN_VALUE, Integer.MIN_VALUE}, {Integer.MAX_VALUE, Integer.MAX_VALUE}};
        int[] sums = {Integer.MIN_VALUE, Integer.MAX_VALUE, 0, -2};
        for (int i = 0; i < sums.length; i++) {
            NameNet net = new NameNet(0, 6, 9);
            net.announce(0, 0, true);
            net.fetch(0, 0, 2, 2);
            net.publish(0, 1, contents[i][0], 0);
            net.publish(0, 2, contents[i][1], 0);
            net.pump(0);
            net.pump(0);
            Check.due("the sum", net.fetched(0, 3), sums[i]);
        }
    }
}
