/** Promises 1 (STORE), 18 stored, and of 17 waiting the store; how asks are served from it (9). */
public final class StoreTest {
    public static void main(String[] args) {
        promise1HoldsStoreWithinItsBounds();
        promise9ServesTheLeastNameThatAnswers();
        promise9ServesFreshenedAsksWithFreshDatas();
        promise9ServesBeforeItLooksForRoom();
        promise9ServesAnswersAllWaitingRequests();
        promise10NacksWhatCameRoundThoughItIsStored();
        promise10ServesOtherNodes();
        promise10KeepsADataOnceAndAnew();
        promise18TellsTheOrderOfUse();
        promise18Refuses();
        Check.end();
    }

    /** Node 0 makes all names known and has published /a .. /h (1 .. 8) with periods of 1 .. 8. */
    private static NameNet producer(int store) {
        NameNet net = new NameNet(store, 6, 9);
        net.announce(0, 0, true);
        for (int i = 1; i <= 8; i++) {
            Check.due("name", Check.make(net, "/" + (char) ('a' + i - 1)), i);
            net.publish(0, i, 10 * i, i);
        }
        return net;
    }

    private static void ask(NameNet net, int name, int flags, int wantName) {
        int request = net.ask(0, name, flags, 0);
        Check.request(net, request, 1, wantName, 10 * wantName);
    }

    private static int mostStored(int store) {
        NameNet net = producer(store);
        for (int i = 1; i <= 8; i++) {
            ask(net, i, 0, i);
        }
        return net.waiting(0, 1);
    }

    private static void promise1HoldsStoreWithinItsBounds() {
        Check.due("store -1", mostStored(-1), 0);
        Check.due("store 0", mostStored(0), 0);
        Check.due("store 1", mostStored(1), 1);
        Check.due("store 3", mostStored(3), 3);
        Check.due("store 6", mostStored(6), 6);
        Check.due("store 7", mostStored(7), 6);
        Check.due("the greatest store", mostStored(Integer.MAX_VALUE), 6);
        Check.due("the least store", mostStored(Integer.MIN_VALUE), 0);
    }

    private static void promise9ServesTheLeastNameThatAnswers() {
        NameNet net = producer(6);
        ask(net, 5, 0, 5);
        ask(net, 3, 0, 3);
        ask(net, 7, 0, 7);
        ask(net, 0, 1, 3);
        Check.due("served: used last", net.stored(0, 3), 2);
        Check.due("nothing was taken from the producer", net.stored(0, 1), -1);
        net.announce(0, 0, false);
        ask(net, 5, 1, 5);
        ask(net, 5, 0, 5);
        int request = net.ask(0, 0, 0, 9);
        Check.due("not by prefix when it is not prefixed", net.request(request, 0), 2);
        request = net.ask(0, 0, 2, 9);
        Check.due("nor when it is freshened", net.request(request, 0), 2);
        request = net.ask(0, 1, 1, 9);
        Check.due("not what has another name", net.request(request, 0), 2);
    }

    private static void promise9ServesFreshenedAsksWithFreshDatas() {
        NameNet net = producer(6);
        net.tick();
        ask(net, 2, 0, 2);
        ask(net, 4, 0, 4);
        net.announce(0, 0, false);
        ask(net, 2, 2, 2);
        ask(net, 0, 3, 2);
        net.tick();
        ask(net, 2, 2, 2);
        net.tick();
        int request = net.ask(0, 2, 2, 9);
        Check.due("fresh until NOW is not fresh", net.request(request, 0), 2);
        ask(net, 0, 3, 4);
        ask(net, 2, 0, 2);
        ask(net, 0, 1, 2);
        Check.due("served: the fresh one, then the other", net.stored(0, 4), 0);
        net.tick();
        ask(net, 0, 3, 4);
        net.tick();
        request = net.ask(0, 0, 3, 9);
        Check.due("none is fresh", net.request(request, 0), 2);
        ask(net, 0, 1, 2);
    }

    private static void promise9ServesBeforeItLooksForRoom() {
        NameNet net = new NameNet(1, 1, 9);
        net.link(0, 0, 1, 0);
        net.announce(1, 0, true);
        Check.carry(net, 1, 0, 3);
        int a = Check.make(net, "/a");
        int b = Check.make(net, "/b");
        net.publish(1, a, 10, 0);
        net.ask(0, a, 0, 9);
        Check.carry(net, 0, 0, 0);
        Check.carry(net, 1, 0, 1);
        net.ask(0, b, 0, 9);
        Check.due("no room for an entry", net.waiting(0, 0), 1);
        net.ask(0, a, 0, 9);
        Check.request(net, 2, 1, a, 10);
        net.ask(0, a, 2, 9);
        Check.request(net, 3, 2, -1, 0);
        Check.due("the other one waits", net.request(1, 0), 0);
    }

    /** The data comes from a face that the first entry has no errand for, so that it stays. */
    private static void promise9ServesAnswersAllWaitingRequests() {
        NameNet net = new NameNet(1, 6, 9);
        net.link(0, 0, 1, 0);
        net.link(0, 1, 2, 0);
        int a = Check.make(net, "/a");
        net.announce(1, a, true);
        net.announce(2, 0, true);
        Check.carry(net, 1, 0, 3);
        Check.carry(net, 2, 0, 3);
        Check.carry(net, 0, 1, 3);
        net.publish(2, a, 10, 0);
        net.ask(0, a, 0, 9);
        net.ask(0, 0, 1, 9);
        Check.carry(net, 0, 1, 0);
        Check.carry(net, 2, 0, 1);
        Check.request(net, 1, 1, a, 10);
        Check.request(net, 0, 0, -1, 0);
        net.ask(1, a, 0, 9);
        net.ask(0, a, 0, 9);
        Check.request(net, 3, 1, a, 10);
        Check.request(net, 0, 1, a, 10);
        Check.due("refused at node 1, not answered", net.request(2, 0), 2);
        Check.due("the entry stays", net.waiting(0, 0), 1);
    }

    private static void promise10NacksWhatCameRoundThoughItIsStored() {
        NameNet net = new NameNet(1, 6, 9);
        net.link(0, 0, 1, 0);
        net.link(1, 1, 2, 0);
        net.link(1, 2, 3, 0);
        int a = Check.make(net, "/a");
        net.announce(2, a, true);
        net.announce(3, 0, true);
        Check.carry(net, 2, 0, 3);
        Check.carry(net, 3, 0, 3);
        Check.carry(net, 1, 0, 3);
        Check.carry(net, 1, 0, 3);
        Check.carry(net, 1, 2, 3);
        net.publish(3, a, 10, 0);
        net.ask(0, a, 0, 9);
        net.alter(0, 0, true);
        Check.carry(net, 0, 0, 0);
        net.ask(1, 0, 1, 9);
        Check.carry(net, 1, 2, 0);
        Check.carry(net, 3, 0, 1);
        Check.due("stored", net.stored(1, a), 0);
        Check.due("the entry of /a waits", net.waiting(1, 0), 1);
        Check.carry(net, 0, 0, 0);
        Check.carry(net, 1, 0, 2);
        Check.due("refused", net.request(0, 0), 2);
    }

    private static void promise10ServesOtherNodes() {
        NameNet net = new NameNet(2, 6, 9);
        net.link(0, 0, 1, 0);
        net.link(1, 1, 2, 0);
        net.announce(2, 0, true);
        Check.carry(net, 2, 0, 3);
        Check.carry(net, 1, 0, 3);
        int a = Check.make(net, "/a");
        net.publish(2, a, 10, 3);
        net.ask(1, a, 0, 9);
        Check.carry(net, 1, 1, 0);
        net.tick();
        Check.carry(net, 2, 0, 1);
        Check.due("kept at node 1", net.stored(1, a), 0);
        Check.due("kept at node 2", net.stored(2, a), 0);
        net.tick();
        net.ask(0, a, 2, 1);
        Check.carry(net, 0, 0, 0);
        Check.due("no entry at node 1", net.waiting(1, 0), 0);
        net.tick();
        Check.carry(net, 1, 0, 1);
        Check.request(net, 1, 1, a, 10);
        net.tick();
        net.tick();
        net.ask(0, a, 2, 0);
        Check.request(net, 2, 1, a, 10);
        net.tick();
        net.ask(0, a, 2, 0);
        Check.request(net, 3, 2, -1, 0);
    }

    private static void promise10KeepsADataOnceAndAnew() {
        NameNet net = producer(3);
        ask(net, 1, 0, 1);
        ask(net, 2, 0, 2);
        net.tick();
        Check.due("/a is not fresh any more", net.stored(0, 1), 0);
        ask(net, 1, 2, 1);
        Check.due("kept anew, used last", net.stored(0, 1), 1);
        Check.due("once", net.waiting(0, 1), 2);
        ask(net, 1, 2, 1);
        ask(net, 3, 0, 3);
        net.tick();
        ask(net, 2, 2, 2);
        Check.due("one of the same name goes, no other", net.waiting(0, 1), 3);
        Check.due("/a", net.stored(0, 1), 0);
        Check.due("/c", net.stored(0, 3), 1);
        Check.due("/b", net.stored(0, 2), 2);
    }

    private static void promise18TellsTheOrderOfUse() {
        NameNet net = producer(3);
        ask(net, 1, 0, 1);
        ask(net, 2, 0, 2);
        ask(net, 3, 0, 3);
        Check.due("the first", net.stored(0, 1), 0);
        Check.due("the second", net.stored(0, 2), 1);
        Check.due("the third", net.stored(0, 3), 2);
        ask(net, 1, 0, 1);
        Check.due("used again", net.stored(0, 1), 2);
        Check.due("moved up", net.stored(0, 2), 0);
        ask(net, 4, 0, 4);
        Check.due("used longest ago: gone", net.stored(0, 2), -1);
        Check.due("then the third", net.stored(0, 3), 0);
        Check.due("then the first", net.stored(0, 1), 1);
        Check.due("then the fourth", net.stored(0, 4), 2);
        Check.due("not at another node", net.stored(1, 4), -1);
    }

    private static void promise18Refuses() {
        NameNet net = producer(6);
        ask(net, 8, 0, 8);
        Check.due("as it is", net.stored(0, 8), 0);
        Check.due("published, not in the store", net.stored(0, 7), -1);
        Check.due("node -1", net.stored(-1, 8), -1);
        Check.due("node 5", net.stored(5, 8), -1);
        Check.due("name -1", net.stored(0, -1), -1);
        Check.due("name 9", net.stored(0, 9), -1);
    }
}
