/** The boundaries of THE STORE, with those of 1 (STORE), 17 waiting and 18 stored. */
public final class StoreBoundsTest {
    public static void main(String[] args) {
        storeIs0To6();
        aStoreOf0KeepsNothing();
        aFullStoreLosesTheOneUsedLongestAgo();
        aStoreOf1HasTheLatest();
        theSameNameTakesNoOtherOnesPlace();
        servingIsUsing();
        servesTheLeastNumberOfThoseThatAnswer();
        freshIsUntilAboveNow();
        period0IsNeverFresh();
        period20IsFreshFor19Ticks();
        keepingAnewSetsUntilAnew();
        servingLeavesUntilAsItWas();
        eachDataHasAnUntilOfItsOwn();
        freshenedPassesOverWhatIsNotFresh();
        notFreshIsServedWhenNotFreshened();
        aDataIsKeptBeforeItIsSent();
        storedTellsPlacesFromZero();
        storedIsNoneForWhatIsNotThere();
        storedRefusesNodesAndNamesThatAreNone();
        Check.end();
    }

    /** Node 0 makes all names known and has published names 1 .. 10 with the contents 1 .. 10. */
    private static NameNet producer(int store, int period) {
        NameNet net = new NameNet(store, 6, 9);
        Nets.fillNames(net, 11);
        net.announce(0, 0, true);
        for (int name = 1; name <= 10; name++) {
            net.publish(0, name, name, period);
        }
        return net;
    }

    private static void answered(NameNet net, int name, int flags, int by) {
        Check.request(net, net.ask(0, name, flags, 0), 1, by, by);
    }

    private static void refused(NameNet net, int name, int flags) {
        Check.request(net, net.ask(0, name, flags, 0), 2, -1, 0);
    }

    private static int mostStored(int store) {
        NameNet net = producer(store, 0);
        for (int name = 1; name <= 9; name++) {
            answered(net, name, 0, name);
        }
        return net.waiting(0, 1);
    }

    private static void storeIs0To6() {
        Check.says("STORE is store, but 0 if that is less and 6 if that is more");
        for (int store = -3; store <= 9; store++) {
            Check.due("store " + store, mostStored(store), store < 0 ? 0 : Math.min(store, 6));
        }
        Check.due("the least", mostStored(Integer.MIN_VALUE), 0);
        Check.due("the greatest", mostStored(Integer.MAX_VALUE), 6);
    }

    private static void aStoreOf0KeepsNothing() {
        Check.says("To KEEP a data (nothing happens if STORE is 0)");
        NameNet net = producer(0, 9);
        answered(net, 1, 0, 1);
        Check.due("none", net.waiting(0, 1), 0);
        Check.due("no place", net.stored(0, 1), -1);
        net.announce(0, 0, false);
        refused(net, 1, 0);
    }

    private static void aFullStoreLosesTheOneUsedLongestAgo() {
        Check.says("if STORE are there, the one used longest ago is gone");
        for (int store = 1; store <= 6; store++) {
            NameNet net = producer(store, 0);
            for (int name = 1; name <= store; name++) {
                answered(net, name, 0, name);
                Check.due("none is gone", net.stored(0, 1), 0);
            }
            answered(net, 10, 0, 10);
            Check.due("the first is gone", net.stored(0, 1), -1);
            for (int name = 2; name <= store; name++) {
                Check.due("place of " + name, net.stored(0, name), name - 2);
            }
            Check.due("place of the new one", net.stored(0, 10), store - 1);
        }
    }

    private static void aStoreOf1HasTheLatest() {
        Check.says("THE STORE of a node has at most STORE datas");
        NameNet net = producer(1, 0);
        for (int name = 1; name <= 4; name++) {
            answered(net, name, 0, name);
            Check.due("one", net.waiting(0, 1), 1);
            Check.due("the latest", net.stored(0, name), 0);
            Check.due("not the one before", net.stored(0, name - 1), -1);
        }
    }

    /** A freshened ask is not served by what is not fresh, so that the data is kept anew. */
    private static void theSameNameTakesNoOtherOnesPlace() {
        Check.says("one of the same name is gone");
        NameNet net = producer(3, 0);
        for (int name = 1; name <= 3; name++) {
            answered(net, name, 0, name);
        }
        answered(net, 2, 2, 2);
        Check.due("three", net.waiting(0, 1), 3);
        Check.due("the first", net.stored(0, 1), 0);
        Check.due("the third", net.stored(0, 3), 1);
        Check.due("the second is used last", net.stored(0, 2), 2);
    }

    private static void servingIsUsing() {
        Check.says("that data is the one used last then");
        NameNet net = producer(3, 0);
        for (int name = 1; name <= 3; name++) {
            answered(net, name, 0, name);
        }
        answered(net, 1, 0, 1);
        Check.due("the first is used last", net.stored(0, 1), 2);
        Check.due("the second", net.stored(0, 2), 0);
        Check.due("the third", net.stored(0, 3), 1);
        answered(net, 1, 0, 1);
        Check.due("used again: as it was", net.stored(0, 1), 2);
        answered(net, 4, 0, 4);
        Check.due("the second was used longest ago", net.stored(0, 2), -1);
    }

    private static void servesTheLeastNumberOfThoseThatAnswer() {
        Check.says("the data whose name has the least number of those that answer it");
        NameNet net = producer(6, 0);
        answered(net, 5, 0, 5);
        answered(net, 3, 0, 3);
        answered(net, 7, 0, 7);
        answered(net, 0, 1, 3);
        answered(net, 7, 1, 7);
        answered(net, 0, 1, 3);
        Check.due("nothing was kept by it", net.waiting(0, 1), 3);
    }

    private static void freshIsUntilAboveNow() {
        Check.says("if it is freshened, has an until greater than NOW");
        NameNet net = producer(6, 3);
        answered(net, 1, 0, 1);
        net.announce(0, 0, false);
        for (int now = 0; now < 3; now++) {
            answered(net, 1, 2, 1);
            answered(net, 0, 3, 1);
            net.tick();
        }
        refused(net, 1, 2);
        refused(net, 0, 3);
        net.tick();
        refused(net, 1, 2);
    }

    private static void period0IsNeverFresh() {
        Check.says("it is used last, its until is NOW + its period");
        NameNet net = producer(6, 0);
        answered(net, 1, 0, 1);
        net.announce(0, 0, false);
        refused(net, 1, 2);
        answered(net, 1, 0, 1);
    }

    private static void period20IsFreshFor19Ticks() {
        Check.says("its until is NOW + its period");
        NameNet net = producer(6, 20);
        net.tick();
        answered(net, 1, 0, 1);
        net.announce(0, 0, false);
        for (int i = 0; i < 19; i++) {
            net.tick();
        }
        answered(net, 1, 2, 1);
        net.tick();
        refused(net, 1, 2);
    }

    private static void keepingAnewSetsUntilAnew() {
        Check.says("one of the same name is gone");
        NameNet net = producer(6, 2);
        answered(net, 1, 2, 1);
        net.tick();
        net.tick();
        answered(net, 1, 2, 1);
        net.announce(0, 0, false);
        net.tick();
        answered(net, 1, 2, 1);
        net.tick();
        refused(net, 1, 2);
    }

    private static void servingLeavesUntilAsItWas() {
        Check.says("that data is the one used last then");
        NameNet net = producer(6, 2);
        answered(net, 1, 2, 1);
        answered(net, 2, 2, 2);
        net.announce(0, 0, false);
        net.tick();
        answered(net, 1, 2, 1);
        net.tick();
        refused(net, 1, 2);
    }

    /** Four datas with periods of 4, 1, 3, 2 in a store of three: the first makes room. */
    private static void eachDataHasAnUntilOfItsOwn() {
        Check.says("each with a name that no other one there has and a tick UNTIL which it is");
        NameNet net = new NameNet(3, 6, 9);
        Nets.fillNames(net, 5);
        net.announce(0, 0, true);
        int[] periods = {0, 4, 1, 3, 2};
        for (int name = 1; name <= 4; name++) {
            net.publish(0, name, name, periods[name]);
            answered(net, name, 0, name);
        }
        net.announce(0, 0, false);
        refused(net, 1, 2);
        for (int now = 0; now <= 4; now++) {
            for (int name = 2; name <= 4; name++) {
                if (now < periods[name]) {
                    answered(net, name, 2, name);
                } else {
                    refused(net, name, 2);
                }
            }
            net.tick();
        }
    }

    private static void freshenedPassesOverWhatIsNotFresh() {
        Check.says("and, if it is freshened, has an until greater than NOW");
        NameNet net = producer(6, 2);
        answered(net, 1, 0, 1);
        net.tick();
        answered(net, 2, 0, 2);
        net.tick();
        answered(net, 0, 3, 2);
        Check.due("the fresh one was used", net.stored(0, 2), 1);
        answered(net, 0, 1, 1);
    }

    private static void notFreshIsServedWhenNotFreshened() {
        Check.says("It SERVES an interest with the data");
        NameNet net = producer(6, 1);
        answered(net, 1, 0, 1);
        net.announce(0, 0, false);
        for (int i = 0; i < 30; i++) {
            net.tick();
        }
        answered(net, 1, 0, 1);
        answered(net, 0, 1, 1);
    }

    /** Two entries are answered by one data: it is there once, and was used when it came. */
    private static void aDataIsKeptBeforeItIsSent() {
        Check.says("If there was one, the data is kept in the store, once, before it is sent");
        NameNet net = Nets.pair(2, 6, 9);
        int a = Check.make(net, "/a");
        net.publish(1, a, 5, 2);
        net.ask(0, a, 0, 9);
        net.ask(0, 0, 1, 9);
        Check.carry(net, 0, 0, 0);
        net.tick();
        Check.carry(net, 1, 0, 1);
        Check.due("once at node 0", net.waiting(0, 1), 1);
        Check.due("once at node 1", net.waiting(1, 1), 1);
        net.tick();
        net.ask(0, a, 2, 0);
        Check.due("fresh at node 0, where it came later", net.request(2, 0), 1);
        net.ask(1, a, 2, 0);
        Check.due("node 1 asks its producer", net.request(3, 0), 1);
    }

    private static void storedTellsPlacesFromZero() {
        Check.says("The place of the data of a name in a node's store, from 0, the one used");
        NameNet net = producer(6, 0);
        for (int name = 6; name >= 1; name--) {
            answered(net, name, 0, name);
        }
        for (int name = 6; name >= 1; name--) {
            Check.due("place of " + name, net.stored(0, name), 6 - name);
        }
    }

    private static void storedIsNoneForWhatIsNotThere() {
        Check.says("NONE if there is none");
        NameNet net = producer(6, 0);
        Check.due("published alone", net.stored(0, 1), -1);
        answered(net, 1, 0, 1);
        Check.due("there", net.stored(0, 1), 0);
        Check.due("at another node", net.stored(1, 1), -1);
        Check.due("another name", net.stored(0, 2), -1);
        Check.due("the name above", net.stored(0, 0), -1);
    }

    private static void storedRefusesNodesAndNamesThatAreNone() {
        Check.says("or no such node or name");
        NameNet net = producer(6, 0);
        answered(net, 10, 0, 10);
        for (int none : new int[] {Integer.MIN_VALUE, -1, 5, 6, Integer.MAX_VALUE}) {
            Check.due("node " + none, net.stored(none, 10), -1);
        }
        for (int none : new int[] {Integer.MIN_VALUE, -1, 11, 48, Integer.MAX_VALUE}) {
            Check.due("name " + none, net.stored(0, none), -1);
        }
        Check.due("as it is", net.stored(0, 10), 0);
    }
}
