/** Promises 13 fetch, 14 pump, 15 fetched. */
public final class FetchTest {
    public static void main(String[] args) {
        promise13MakesTheSegments();
        promise13Refuses();
        promise13HasNoRoom();
        promise13TakesTheOlderOnesPlace();
        promise14AsksWithinTheWindow();
        promise14AsksWithoutFlagsAndWithNineHops();
        promise14BreaksAfterThreeTries();
        promise14AsksLateSegmentsAgain();
        promise14LooksAtAllWhenOneBreaks();
        promise14EndsWhenAskIsRefused();
        promise14Refuses();
        promise15TellsAFetch();
        promise15WrapsTheSum();
        Check.end();
    }

    private static void carryAll(NameNet net) {
        for (int i = 0; i < 8 && net.waiting(0, 2) > 0; i++) {
            net.carry(0, 0);
        }
        for (int i = 0; i < 8 && net.waiting(1, 2) > 0; i++) {
            net.carry(1, 0);
        }
    }

    private static void fetched(NameNet net, int had, int asked, int broken, int sum) {
        Check.due("had", net.fetched(0, 0), had);
        Check.due("asked", net.fetched(0, 1), asked);
        Check.due("broken", net.fetched(0, 2), broken);
        Check.due("sum", net.fetched(0, 3), sum);
    }

    private static void promise13MakesTheSegments() {
        NameNet net = new NameNet(1, 1, 1);
        int two = Check.make(net, "/v/2");
        int v = net.parent(two);
        Check.due("fetch", net.fetch(0, v, 4, 1), true);
        Check.due("/v/0", Check.name(net, "/v/0"), 3);
        Check.due("/v/1", Check.name(net, "/v/1"), 4);
        Check.due("/v/2 was there", Check.name(net, "/v/2"), two);
        Check.due("/v/3", Check.name(net, "/v/3"), 5);
        Check.due("no more", net.parent(6), -1);
        Check.due("parent of /v/3", net.parent(5), v);
        Check.due("of name 0", net.fetch(4, 0, 10, 4), true);
        Check.due("/9", Check.name(net, "/9"), 15);
        Check.due("of three components", net.fetch(1, Check.make(net, "/a/b/c"), 1, 1), true);
        Check.due("/a/b/c/0", Check.name(net, "/a/b/c/0"), 19);
    }

    private static void promise13Refuses() {
        NameNet net = new NameNet(1, 1, 1);
        int v = Check.make(net, "/v");
        Check.due("node -1", net.fetch(-1, v, 1, 1), false);
        Check.due("node 5", net.fetch(5, v, 1, 1), false);
        Check.due("name -1", net.fetch(0, -1, 1, 1), false);
        Check.due("name 2", net.fetch(0, 2, 1, 1), false);
        Check.due("count 0", net.fetch(0, v, 0, 1), false);
        Check.due("count 11", net.fetch(0, v, 11, 1), false);
        Check.due("window 0", net.fetch(0, v, 1, 0), false);
        Check.due("window 5", net.fetch(0, v, 1, 5), false);
        Check.due("no name was made", net.parent(2), -1);
        int long4 = Check.make(net, "/a/b/c/d");
        Check.due("four components", net.fetch(0, long4, 1, 1), false);
        Check.due("no fetch", net.fetched(0, 0), -1);
        Check.due("count 1, window 4", net.fetch(0, v, 1, 4), true);
        Check.due("count 10, window 1", net.fetch(0, v, 10, 1), true);
    }

    private static void promise13HasNoRoom() {
        NameNet net = new NameNet(1, 1, 1);
        for (char c = 'a'; c <= 'd'; c++) {
            net.fetch(0, Check.make(net, "/" + c), 10, 1);
        }
        Check.due("45 names", net.parent(44), 34);
        int e = Check.make(net, "/e");
        Check.due("46 names", e, 45);
        net.fetch(0, 1, 2, 2);
        net.pump(0);
        Check.due("three more", net.fetch(0, e, 3, 4), false);
        Check.due("none was made", net.parent(46), -1);
        Check.due("the older one stays", net.fetched(0, 1), 2);
        Check.due("two more", net.fetch(0, e, 2, 4), true);
        Check.due("the older one is gone", net.fetched(0, 1), 0);
        Check.due("48 names", net.parent(47), e);
        Check.due("all are there", net.fetch(0, e, 2, 4), true);
        Check.due("one more", net.fetch(0, e, 3, 4), false);
        Check.due("those of /a are there", net.fetch(3, 1, 10, 4), true);
    }

    private static void promise13TakesTheOlderOnesPlace() {
        NameNet net = Nets.pair(0, 6, 9);
        int v = Check.make(net, "/v");
        net.fetch(0, v, 3, 2);
        net.publish(1, v + 1, 7, 0);
        net.pump(0);
        carryAll(net);
        net.pump(0);
        fetched(net, 1, 2, 0, 7);
        Check.due("another node", net.fetch(1, v, 1, 1), true);
        fetched(net, 1, 2, 0, 7);
        Check.due("the same once more", net.fetch(0, v, 3, 2), true);
        fetched(net, 0, 0, 0, 0);
        Check.due("tries begin anew", net.pump(0), 2);
    }

    private static void promise14AsksWithinTheWindow() {
        for (int window = 1; window <= 4; window++) {
            NameNet net = Nets.pair(0, 6, 9);
            int v = Check.make(net, "/v");
            net.fetch(0, v, 6, window);
            for (int i = 0; i < 6; i++) {
                net.publish(1, v + 1 + i, 1 << i, 0);
            }
            Check.due("the first round", net.pump(0), window);
            Check.due("requests", net.request(window - 1, 0), 0);
            Check.due("no more requests", net.request(window, 0), -1);
            Check.due("a round while all wait", net.pump(0), 0);
            Check.carry(net, 0, 0, 0);
            Check.carry(net, 1, 0, 1);
            Check.due("the lowest was asked first", net.fetched(0, 3), 0);
            Check.due("one had, one asked", net.pump(0), 1);
            fetched(net, 1, window, 0, 1);
            for (int i = 0; i < 10 && net.fetched(0, 0) < 6; i++) {
                carryAll(net);
                net.pump(0);
            }
            fetched(net, 6, 0, 0, 63);
            Check.due("each was asked once", net.request(6, 0), -1);
        }
    }

    private static void promise14AsksWithoutFlagsAndWithNineHops() {
        NameNet net = Nets.pair(0, 6, 9);
        int v = Check.make(net, "/v");
        net.fetch(0, v, 1, 1);
        int below = Check.make(net, "/v/0/x");
        net.publish(1, below, 7, 0);
        net.pump(0);
        net.ask(0, v + 1, 0, 0);
        Check.due("the same entry: name, flags 0", net.waiting(0, 0), 1);
        carryAll(net);
        Check.due("a longer name does not answer", net.request(0, 0), 2);
        // hops 9 is enough for a line of all nodes
        NameNet far = new NameNet(0, 6, 9);
        for (int node = 0; node < 4; node++) {
            far.link(node, 0, node + 1, 1);
        }
        far.announce(4, 0, true);
        for (int node = 4; node > 0; node--) {
            Check.carry(far, node, 1, 3);
        }
        far.fetch(0, 0, 1, 1);
        far.publish(4, 1, 5, 0);
        far.pump(0);
        for (int node = 0; node < 4; node++) {
            Check.carry(far, node, 0, 0);
        }
        for (int node = 4; node > 0; node--) {
            Check.carry(far, node, 1, 1);
        }
        far.pump(0);
        Check.due("had", far.fetched(0, 3), 5);
    }

    private static void promise14BreaksAfterThreeTries() {
        NameNet net = new NameNet(0, 6, 9);
        net.fetch(0, 0, 2, 1);
        for (int i = 0; i < 3; i++) {
            Check.due("a try", net.pump(0), 1);
            Check.due("refused at once", net.request(i, 0), 2);
            fetched(net, 0, 1, 0, 0);
        }
        Check.due("broken in this round", net.pump(0), 0);
        fetched(net, 0, 0, 1, 0);
        Check.due("broken", net.pump(0), -2);
        Check.due("no more requests", net.request(3, 0), -1);
        net.fetch(0, 0, 2, 1);
        fetched(net, 0, 0, 0, 0);
        for (int i = 0; i < 3; i++) {
            Check.due("a try of the new fetch", net.pump(0), 1);
        }
        Check.due("broken anew", net.pump(0), 0);
    }

    private static void promise14AsksLateSegmentsAgain() {
        NameNet net = Nets.pair(0, 6, 2);
        net.fetch(0, 0, 1, 1);
        net.publish(1, 1, 5, 0);
        for (int i = 0; i < 3; i++) {
            Check.due("a try", net.pump(0), 1);
            net.tick();
            Check.due("waits", net.pump(0), 0);
            if (i < 2) {
                net.tick();
            }
        }
        carryAll(net);
        Check.due("the third try is answered", net.pump(0), 0);
        fetched(net, 1, 0, 0, 5);
        Check.due("all is had", net.pump(0), -3);
    }

    private static void promise14LooksAtAllWhenOneBreaks() {
        NameNet net = Nets.pair(0, 6, 9);
        net.fetch(0, 0, 2, 2);
        net.publish(1, 2, 5, 0);
        net.pump(0);
        net.alter(0, 0, true);
        net.alter(0, 0, false);
        net.alter(0, 0, true);
        net.alter(0, 0, false);
        Check.carry(net, 0, 0, 0);
        Check.carry(net, 1, 0, 2);
        Check.due("the second try", net.pump(0), 1);
        net.alter(0, 0, true);
        net.alter(0, 0, false);
        Check.carry(net, 0, 0, 0);
        Check.carry(net, 1, 0, 2);
        Check.due("the third try", net.pump(0), 1);
        carryAll(net);
        Check.due("broken by the first, the second is had", net.pump(0), 0);
        fetched(net, 1, 0, 1, 5);
    }

    private static void promise14EndsWhenAskIsRefused() {
        NameNet net = new NameNet(0, 6, 9);
        for (int i = 0; i < 119; i++) {
            net.ask(1, 0, 0, 0);
        }
        net.fetch(0, 0, 3, 3);
        Check.due("one has room", net.pump(0), 1);
        fetched(net, 0, 1, 0, 0);
        for (int i = 0; i < 5; i++) {
            Check.due("none has room", net.pump(0), 0);
            fetched(net, 0, 0, 0, 0);
        }
    }

    private static void promise14Refuses() {
        NameNet net = new NameNet(0, 6, 9);
        Check.due("no fetch", net.pump(0), -1);
        Check.due("node -1", net.pump(-1), -1);
        Check.due("node 5", net.pump(5), -1);
        net.fetch(0, 0, 1, 1);
        Check.due("at another node", net.pump(1), -1);
        net.publish(0, 1, 3, 0);
        net.announce(0, 0, true);
        Check.due("asked", net.pump(0), 1);
        fetched(net, 0, 1, 0, 0);
        Check.due("not all had ahead of this round", net.pump(0), 0);
        Check.due("all had", net.pump(0), -3);
    }

    private static void promise15TellsAFetch() {
        NameNet net = new NameNet(0, 6, 9);
        Check.due("no fetch", net.fetched(0, 0), -1);
        net.fetch(0, 0, 3, 2);
        fetched(net, 0, 0, 0, 0);
        net.publish(0, 1, 3, 0);
        net.publish(0, 2, -4, 0);
        net.announce(0, 0, true);
        net.pump(0);
        fetched(net, 0, 2, 0, 0);
        net.pump(0);
        fetched(net, 2, 1, 0, -1);
        Check.due("what -1", net.fetched(0, -1), -1);
        Check.due("what 4", net.fetched(0, 4), -1);
        Check.due("node -1", net.fetched(-1, 0), -1);
        Check.due("node 5", net.fetched(5, 0), -1);
        Check.due("at another node", net.fetched(1, 0), -1);
    }

    private static void promise15WrapsTheSum() {
        NameNet net = new NameNet(0, 6, 9);
        net.fetch(0, 0, 2, 2);
        net.publish(0, 1, Integer.MAX_VALUE, 0);
        net.publish(0, 2, 2, 0);
        net.announce(0, 0, true);
        net.pump(0);
        net.pump(0);
        Check.due("the sum", net.fetched(0, 3), Integer.MIN_VALUE + 1);
    }
}
