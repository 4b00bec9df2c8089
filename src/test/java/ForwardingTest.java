/** Promises 1 (PENDING, LIFE), 8 publish, 9 ask, 10 carry, 12 tick, 17 waiting (entries), 19. */
public final class ForwardingTest {
    public static void main(String[] args) {
        promise1HoldsPendingWithinItsBounds();
        promise1HoldsLifeWithinItsBounds();
        promise8Refuses();
        promise8AnswersWithTheLeastName();
        promise8AnswersFreshOrNot();
        promise8AnswersOnlyAtItsNode();
        promise9NumbersRequests();
        promise9Refuses();
        promise9HasRoomForHundredAndTwenty();
        promise9RefusesAllRequestsOfTheNameAndFlags();
        promise9TakesTheLongestPrefix();
        promise9TakesTheCheapestFace();
        promise9NameZeroIsAPrefixOfAllNames();
        promise9HopsEnd();
        promise9NoOtherFaceWhenHopsIsZero();
        promise9SecondAskFromAnotherFaceWaits();
        promise9TheAppMayAskAndAnswer();
        promise10NacksWhatCameRound();
        promise10NacksTheNonceOfAnotherFacesAsk();
        promise10TakesTheNonceOfTheSameFacesAskAgain();
        promise10ANackTriesTheNextFace();
        promise10ANackTakesTheLatestHops();
        promise10NacksOfOtherErrandsAreNothing();
        promise10ASecondNackIsNothing();
        promise10ANackOfAnOlderNonceIsNothing();
        promise10AFailureTellsAllAskers();
        promise10ADataEndsAllEntriesThatItAnswers();
        promise10AStrayDataIsLost();
        promise12EndsAsksAndEntries();
        promise12MakesRequestsLate();
        promise12AnAskCanBeRenewed();
        promise19TellsRequests();
        Check.end();
    }

    /** How many entries node 0 takes, each of which goes to node 1 and waits there. */
    private static int mostEntries(int pending) {
        NameNet net = new NameNet(0, pending, 9);
        net.link(0, 0, 1, 0);
        net.announce(1, 0, true);
        Check.carry(net, 1, 0, 3);
        for (char c = 'a'; c <= 'i'; c++) {
            net.ask(0, Check.make(net, "/" + c), 0, 9);
        }
        int most = net.waiting(0, 0);
        for (int i = 0; i < 9; i++) {
            Check.due("request " + i, net.request(i, 0), i < most ? 0 : 2);
        }
        return most;
    }

    private static void promise1HoldsPendingWithinItsBounds() {
        Check.due("pending -1", mostEntries(-1), 1);
        Check.due("pending 0", mostEntries(0), 1);
        Check.due("pending 1", mostEntries(1), 1);
        Check.due("pending 4", mostEntries(4), 4);
        Check.due("pending 6", mostEntries(6), 6);
        Check.due("pending 7", mostEntries(7), 6);
        Check.due("the greatest pending", mostEntries(Integer.MAX_VALUE), 6);
        Check.due("the least pending", mostEntries(Integer.MIN_VALUE), 1);
    }

    /** After how many ticks a request is late; its entry is gone at the same tick. */
    private static int ticksUntilLate(int life) {
        NameNet net = new NameNet(0, 1, life);
        net.link(0, 0, 1, 0);
        net.announce(1, 0, true);
        Check.carry(net, 1, 0, 3);
        net.tick();
        net.ask(0, 0, 0, 9);
        for (int i = 1; i < 20; i++) {
            int gone = net.tick();
            Check.due("entries gone", gone, net.request(0, 0) == 3 ? 1 : 0);
            if (net.request(0, 0) == 3) {
                return i;
            }
        }
        return -1;
    }

    private static void promise1HoldsLifeWithinItsBounds() {
        Check.due("life -7", ticksUntilLate(-7), 1);
        Check.due("life 0", ticksUntilLate(0), 1);
        Check.due("life 1", ticksUntilLate(1), 1);
        Check.due("life 5", ticksUntilLate(5), 5);
        Check.due("life 9", ticksUntilLate(9), 9);
        Check.due("life 10", ticksUntilLate(10), 9);
        Check.due("the greatest life", ticksUntilLate(Integer.MAX_VALUE), 9);
        Check.due("the least life", ticksUntilLate(Integer.MIN_VALUE), 1);
    }

    private static void promise8Refuses() {
        NameNet net = new NameNet(1, 1, 1);
        int a = Check.make(net, "/a");
        Check.due("node -1", net.publish(-1, a, 1, 1), false);
        Check.due("node 5", net.publish(5, a, 1, 1), false);
        Check.due("name -1", net.publish(0, -1, 1, 1), false);
        Check.due("name 2", net.publish(0, 2, 1, 1), false);
        Check.due("period -1", net.publish(0, a, 1, -1), false);
        Check.due("period 21", net.publish(0, a, 1, 21), false);
        Check.due("period 20", net.publish(0, a, 1, 20), true);
        Check.due("again", net.publish(0, a, 1, 20), false);
        Check.due("at another node", net.publish(1, a, 2, 3), false);
        Check.due("period 0, name 0", net.publish(4, 0, 1, 0), true);
        net.announce(0, a, true);
        net.announce(1, a, true);
        net.ask(0, a, 0, 0);
        Check.request(net, 0, 1, a, 1);
        net.ask(1, a, 0, 0);
        Check.request(net, 1, 2, -1, 0);
    }

    private static void promise8AnswersWithTheLeastName() {
        NameNet net = new NameNet(0, 1, 1);
        int ab = Check.make(net, "/a/b");
        int a = net.parent(ab);
        int ac = Check.make(net, "/a/c");
        int b = Check.make(net, "/b");
        net.announce(0, 0, true);
        net.publish(0, b, 1, 0);
        net.publish(0, ac, 2, 0);
        net.publish(0, ab, 3, 0);
        net.ask(0, a, 1, 0);
        Check.request(net, 0, 1, ab, 3);
        net.ask(0, a, 0, 0);
        Check.request(net, 1, 2, -1, 0);
        net.ask(0, 0, 3, 0);
        Check.request(net, 2, 1, ab, 3);
        net.ask(0, b, 3, 0);
        Check.request(net, 3, 1, b, 1);
        net.ask(0, a, 2, 0);
        Check.request(net, 4, 2, -1, 0);
        net.publish(0, a, Integer.MIN_VALUE, 0);
        net.ask(0, a, 1, 0);
        Check.request(net, 5, 1, a, Integer.MIN_VALUE);
    }

    private static void promise8AnswersFreshOrNot() {
        NameNet net = new NameNet(6, 1, 1);
        int a = Check.make(net, "/a");
        net.announce(0, a, true);
        net.publish(0, a, -1, 0);
        for (int i = 0; i < 4; i++) {
            Check.due("freshened ask", net.ask(0, a, 2, 0), i);
            Check.request(net, i, 1, a, -1);
            net.tick();
        }
    }

    private static void promise8AnswersOnlyAtItsNode() {
        NameNet net = new NameNet(6, 1, 1);
        int a = Check.make(net, "/a");
        net.publish(0, a, 7, 0);
        net.ask(0, a, 0, 9);
        Check.request(net, 0, 2, -1, 0);
        net.announce(1, a, true);
        net.ask(1, a, 0, 9);
        Check.request(net, 1, 2, -1, 0);
        net.announce(0, a, true);
        net.ask(0, a, 0, 0);
        Check.request(net, 2, 1, a, 7);
    }

    private static void promise9NumbersRequests() {
        NameNet net = new NameNet(0, 6, 9);
        Check.due("the first", net.ask(0, 0, 0, 0), 0);
        Check.due("refused by itself", net.ask(0, 1, 0, 0), -1);
        Check.due("the second", net.ask(4, 0, 3, 9), 1);
        Check.due("without a route it is refused", net.request(0, 0), 2);
        Check.due("no entry is left", net.waiting(0, 0), 0);
    }

    private static void promise9Refuses() {
        NameNet net = new NameNet(0, 6, 9);
        Check.due("node -1", net.ask(-1, 0, 0, 0), -1);
        Check.due("node 5", net.ask(5, 0, 0, 0), -1);
        Check.due("name -1", net.ask(0, -1, 0, 0), -1);
        Check.due("name 1", net.ask(0, 1, 0, 0), -1);
        Check.due("flags -1", net.ask(0, 0, -1, 0), -1);
        Check.due("flags 4", net.ask(0, 0, 4, 0), -1);
        Check.due("hops -1", net.ask(0, 0, 0, -1), -1);
        Check.due("hops 10", net.ask(0, 0, 0, 10), -1);
        Check.due("no request", net.request(0, 0), -1);
    }

    private static void promise9HasRoomForHundredAndTwenty() {
        NameNet net = new NameNet(0, 6, 9);
        for (int i = 0; i < 120; i++) {
            Check.due("request", net.ask(i % 5, 0, i % 4, i % 10), i);
        }
        Check.due("the 121st", net.ask(0, 0, 0, 0), -2);
        Check.due("wrong comes first", net.ask(0, 0, 4, 0), -1);
        Check.due("the last", net.request(119, 0), 2);
        Check.due("no more", net.request(120, 0), -1);
    }

    private static void promise9RefusesAllRequestsOfTheNameAndFlags() {
        NameNet net = Nets.line(0, 6, 9);
        int a = Check.make(net, "/a");
        net.ask(0, a, 0, 9);
        net.ask(0, a, 1, 9);
        net.ask(1, a, 0, 9);
        net.ask(0, a, 0, 9);
        Check.carry(net, 0, 0, 0);
        Check.carry(net, 1, 1, 0);
        Check.carry(net, 2, 0, 2);
        Check.due("node 1 is refused", net.request(2, 0), 2);
        Check.due("node 0 waits still", net.request(0, 0), 0);
        Check.carry(net, 1, 0, 2);
        Check.due("the first is refused", net.request(0, 0), 2);
        Check.due("the one that came later too", net.request(3, 0), 2);
        Check.due("not the one with other flags", net.request(1, 0), 0);
    }

    private static void promise9TakesTheLongestPrefix() {
        NameNet net = new NameNet(0, 6, 9);
        net.link(0, 0, 1, 0);
        net.link(0, 1, 2, 0);
        net.link(0, 2, 3, 0);
        int ab = Check.make(net, "/a/b");
        int a = net.parent(ab);
        int abc = Check.make(net, "/a/b/c");
        int ax = Check.make(net, "/a/x");
        int y = Check.make(net, "/y");
        net.announce(1, 0, true);
        net.announce(2, a, true);
        net.announce(3, ab, true);
        net.announce(0, 0, true);
        Check.carry(net, 1, 0, 3);
        Check.carry(net, 2, 0, 3);
        Check.carry(net, 3, 0, 3);
        Nets.drop(net, 0);
        net.ask(0, abc, 0, 9);
        Check.due("/a/b/c along /a/b", net.waiting(0, 4), 1);
        net.ask(0, ab, 0, 9);
        Check.due("/a/b along /a/b", net.waiting(0, 4), 2);
        net.ask(0, ax, 0, 9);
        Check.due("/a/x along /a", net.waiting(0, 3), 1);
        net.ask(0, a, 1, 9);
        Check.due("/a along /a", net.waiting(0, 3), 2);
        net.ask(0, y, 0, 9);
        Check.due("/y along /, the app is cheaper and nacks", net.waiting(0, 2), 1);
        net.turn(0, 2, false);
        Check.due("request", net.ask(0, abc, 1, 9), 5);
        Check.due("no shorter prefix when the link is down", net.request(5, 0), 2);
        net.turn(0, 2, true);
        net.announce(3, ab, false);
        Check.carry(net, 3, 0, 3);
        Nets.drop(net, 0);
        net.ask(0, abc, 1, 9);
        Check.due("a shorter prefix when the route has no cost", net.waiting(0, 3), 1);
    }

    private static void promise9TakesTheCheapestFace() {
        NameNet net = new NameNet(0, 6, 9);
        net.link(0, 0, 1, 0);
        net.link(0, 3, 2, 0);
        net.link(0, 2, 3, 0);
        net.link(1, 1, 2, 1);
        int a = Check.make(net, "/a");
        net.announce(2, a, true);
        Check.carry(net, 2, 1, 3);
        Check.carry(net, 1, 0, 3);
        Check.carry(net, 2, 0, 3);
        Check.due("cost 2", net.cost(0, a, 0), 2);
        Check.due("cost 1", net.cost(0, a, 3), 1);
        Nets.drop(net, 0);
        net.ask(0, a, 0, 9);
        Check.due("not face 0", net.waiting(0, 2), 0);
        Check.due("face 3", net.waiting(0, 5), 1);
        net.announce(3, a, true);
        Check.carry(net, 3, 0, 3);
        Nets.drop(net, 0);
        net.ask(0, a, 1, 9);
        Check.due("the least face of several", net.waiting(0, 4), 1);
        Check.due("and no other one", net.waiting(0, 5), 0);
        net.turn(3, 0, false);
        net.ask(0, a, 2, 9);
        Check.due("not a link that is down", net.waiting(0, 5), 1);
        net.ask(0, a, 2, 9);
        Check.due("asked again: the next face", net.waiting(0, 2), 1);
        Check.due("and not the same once more", net.waiting(0, 5), 1);
        Check.due("asked a third time", net.ask(0, a, 2, 9), 4);
        Check.due("waits, errands are out", net.request(4, 0), 0);
    }

    private static void promise9NameZeroIsAPrefixOfAllNames() {
        NameNet net = new NameNet(0, 6, 9);
        int d = Check.make(net, "/a/b/c/d");
        net.announce(0, 0, true);
        net.publish(0, d, 6, 0);
        net.ask(0, d, 0, 0);
        Check.request(net, 0, 1, d, 6);
        net.ask(0, 0, 1, 0);
        Check.request(net, 1, 1, d, 6);
        net.ask(0, 0, 0, 0);
        Check.request(net, 2, 2, -1, 0);
    }

    private static void promise9HopsEnd() {
        for (int hops = 0; hops <= 3; hops++) {
            NameNet net = Nets.line(0, 6, 9);
            int a = Check.make(net, "/a");
            net.publish(2, a, 5, 0);
            net.ask(0, a, 0, hops);
            Check.due("sent by node 0", net.waiting(0, 2), hops > 0 ? 1 : 0);
            net.carry(0, 0);
            Check.due("sent by node 1", net.waiting(1, 3), hops > 1 ? 1 : 0);
            net.carry(1, 1);
            net.carry(2, 0);
            net.carry(1, 0);
            Check.due("answered", net.request(0, 0), hops > 1 ? 1 : 2);
            Check.due("no entry", net.waiting(0, 0), 0);
        }
    }

    private static void promise9NoOtherFaceWhenHopsIsZero() {
        NameNet net = new NameNet(0, 6, 9);
        net.link(0, 0, 1, 0);
        int ab = Check.make(net, "/a/b");
        int a = net.parent(ab);
        net.publish(0, a, 5, 0);
        net.announce(0, 0, true);
        net.alter(0, 0, false);
        net.ask(0, a, 0, 0);
        Check.request(net, 0, 1, a, 5);
        net.announce(1, a, true);
        Check.carry(net, 1, 0, 3);
        net.ask(0, a, 0, 0);
        Check.due("the longer prefix leads away", net.request(1, 0), 2);
        net.announce(0, a, true);
        net.ask(0, ab, 0, 0);
        Check.due("the app nacks, then hops is 0", net.request(2, 0), 2);
        net.ask(0, a, 0, 0);
        Check.request(net, 3, 1, a, 5);
    }

    private static void promise9SecondAskFromAnotherFaceWaits() {
        NameNet net = Nets.line(0, 6, 9);
        int a = Check.make(net, "/a");
        net.publish(2, a, 5, 0);
        net.ask(0, a, 0, 9);
        net.ask(1, a, 0, 9);
        Check.due("sent by node 1", net.waiting(1, 3), 1);
        Check.carry(net, 0, 0, 0);
        Check.due("not sent again", net.waiting(1, 3), 1);
        Check.due("one entry", net.waiting(1, 0), 1);
        Check.carry(net, 1, 1, 0);
        Check.carry(net, 2, 0, 1);
        Check.request(net, 1, 1, a, 5);
        Check.due("back to node 0 too", net.waiting(1, 2), 1);
        Check.carry(net, 1, 0, 1);
        Check.request(net, 0, 1, a, 5);
    }

    private static void promise9TheAppMayAskAndAnswer() {
        NameNet net = new NameNet(0, 6, 9);
        int a = Check.make(net, "/a");
        net.announce(0, a, true);
        net.publish(0, a, 9, 1);
        net.ask(0, a, 0, 0);
        Check.request(net, 0, 1, a, 9);
        Check.due("no entry is left", net.waiting(0, 0), 0);
    }

    /** A ring 0 - 1 - 2 - 0, in which each node knows a way through the next one. */
    private static void promise10NacksWhatCameRound() {
        NameNet net = new NameNet(0, 6, 9);
        net.link(0, 0, 1, 1);
        net.link(1, 0, 2, 1);
        net.link(2, 0, 0, 1);
        net.link(4, 0, 0, 3);
        int a = Check.make(net, "/a");
        net.announce(4, a, true);
        Check.carry(net, 4, 0, 3);
        Check.carry(net, 0, 1, 3);
        Check.carry(net, 2, 1, 3);
        Check.carry(net, 0, 0, 3);
        Check.carry(net, 1, 1, 3);
        Check.carry(net, 1, 0, 3);
        net.turn(0, 3, false);
        net.ask(0, a, 0, 9);
        Check.carry(net, 0, 0, 0);
        Check.carry(net, 1, 0, 0);
        Check.carry(net, 2, 0, 0);
        Check.due("nacked where it came round", net.waiting(0, 3), 1);
        Check.carry(net, 0, 1, 2);
        Check.carry(net, 2, 1, 2);
        Check.carry(net, 1, 1, 2);
        Check.due("refused", net.request(0, 0), 2);
        Check.due("no entry is left", net.waiting(0, 0), 0);
        Check.due("what came round was no ask", net.waiting(0, 3), 0);
    }

    /**
     * Node 0 reaches node 1 at its face 1 and, through node 2, at its face 0; node 3 is behind
     * node 1. Node 1 has an errand out for itself, so what comes from node 0 only waits there.
     */
    private static NameNet twoFacesOfNodeOne() {
        NameNet net = new NameNet(0, 6, 9);
        net.link(0, 0, 2, 0);
        net.link(2, 1, 1, 0);
        net.link(0, 1, 1, 1);
        net.link(1, 2, 3, 0);
        net.announce(3, 0, true);
        Check.carry(net, 3, 0, 3);
        Check.carry(net, 1, 0, 3);
        Check.carry(net, 2, 0, 3);
        Check.carry(net, 0, 1, 3);
        Check.carry(net, 1, 1, 3);
        for (int node = 0; node < 4; node++) {
            Nets.drop(net, node);
        }
        net.turn(0, 1, false);
        net.ask(1, 0, 0, 9);
        net.ask(0, 0, 0, 9);
        net.turn(0, 1, true);
        Check.due("node 1 asks node 3", net.waiting(1, 4), 1);
        Check.due("node 0 asks node 2", net.waiting(0, 2), 1);
        return net;
    }

    private static void promise10NacksTheNonceOfAnotherFacesAsk() {
        NameNet net = twoFacesOfNodeOne();
        net.alter(0, 0, true);
        Check.carry(net, 0, 0, 0);
        Check.carry(net, 0, 0, 0);
        Check.due("node 2 nacks the second", net.waiting(2, 2), 1);
        Check.carry(net, 2, 1, 0);
        Check.due("it waits at node 1", net.waiting(1, 2), 0);
        Check.carry(net, 2, 0, 2);
        Check.due("node 0 tries its other face", net.waiting(0, 3), 1);
        Check.carry(net, 0, 1, 0);
        Check.due("node 1 nacks it there", net.waiting(1, 3), 1);
        Check.carry(net, 1, 1, 2);
        Check.due("refused", net.request(1, 0), 2);
    }

    private static void promise10TakesTheNonceOfTheSameFacesAskAgain() {
        NameNet net = twoFacesOfNodeOne();
        Check.carry(net, 0, 0, 0);
        net.alter(2, 1, true);
        Check.carry(net, 2, 1, 0);
        Check.due("it waits at node 1", net.waiting(1, 3), 0);
        Check.carry(net, 2, 1, 0);
        Check.due("not nacked", net.waiting(1, 2), 0);
        Check.due("passed on along the next face", net.waiting(1, 3), 1);
    }

    /** Node 0 can reach node 3 through 1 (face 0) and through 2 (face 1). */
    private static NameNet twoWays(int store, int pending) {
        NameNet net = new NameNet(store, pending, 9);
        net.link(0, 0, 1, 0);
        net.link(0, 1, 2, 0);
        net.link(1, 1, 3, 0);
        net.link(2, 1, 3, 1);
        net.announce(3, 0, true);
        Check.carry(net, 3, 0, 3);
        Check.carry(net, 3, 1, 3);
        Check.carry(net, 1, 0, 3);
        Check.carry(net, 2, 0, 3);
        for (int node = 0; node < 4; node++) {
            Nets.drop(net, node);
        }
        return net;
    }

    private static void promise10ANackTriesTheNextFace() {
        NameNet net = twoWays(0, 6);
        int a = Check.make(net, "/a");
        net.ask(0, a, 0, 9);
        Check.carry(net, 0, 0, 0);
        Check.carry(net, 1, 1, 0);
        Check.carry(net, 3, 0, 2);
        Check.due("node 1 has no other face", net.waiting(1, 0), 0);
        Check.carry(net, 1, 0, 2);
        Check.due("node 0 tries face 1", net.waiting(0, 3), 1);
        Check.due("it waits still", net.request(0, 0), 0);
        net.publish(3, a, 11, 0);
        Check.carry(net, 0, 1, 0);
        Check.carry(net, 2, 1, 0);
        Check.carry(net, 3, 1, 1);
        Check.carry(net, 2, 0, 1);
        Check.request(net, 0, 1, a, 11);
    }

    private static void promise10ANackTakesTheLatestHops() {
        for (int hops = 0; hops <= 1; hops++) {
            NameNet net = twoWays(0, 6);
            int a = Check.make(net, "/a");
            net.ask(0, a, 0, 9);
            Check.due("the first face", net.waiting(0, 2), 1);
            // a second ask of the app goes to face 1 at once, unless its hops is 0
            net.ask(0, a, 0, hops);
            Check.due("the second face", net.waiting(0, 3), hops);
            Check.carry(net, 0, 0, 0);
            Check.carry(net, 1, 1, 0);
            Check.carry(net, 3, 0, 2);
            Check.carry(net, 1, 0, 2);
            Check.due("the latest hops, not the first", net.waiting(0, 3), hops);
            Check.due("failed if that was 0", net.request(0, 0), hops == 0 ? 2 : 0);
            Check.due("the second too", net.request(1, 0), hops == 0 ? 2 : 0);
        }
    }

    private static void promise10NacksOfOtherErrandsAreNothing() {
        NameNet net = twoWays(0, 6);
        int a = Check.make(net, "/a");
        net.ask(0, a, 0, 9);
        Check.carry(net, 0, 0, 0);
        Check.carry(net, 1, 1, 0);
        Check.carry(net, 3, 0, 2);
        net.alter(1, 0, true);
        Check.carry(net, 1, 0, 2);
        Check.due("tries face 1", net.waiting(0, 3), 1);
        Check.carry(net, 1, 0, 2);
        Check.due("nacked before: nothing", net.waiting(0, 0), 1);
        Check.due("it waits still", net.request(0, 0), 0);
        for (int i = 0; i < 9; i++) {
            net.tick();
        }
        Check.due("late", net.request(0, 0), 3);
        net.ask(0, a, 0, 9);
        Check.due("the new errand of face 0", net.waiting(0, 2), 1);
        Check.carry(net, 0, 1, 0);
        Check.carry(net, 2, 1, 0);
        Check.carry(net, 3, 1, 2);
        Check.carry(net, 2, 0, 2);
        Check.due("a nack at a face without an errand is nothing", net.waiting(0, 0), 1);
        Check.due("the second waits", net.request(1, 0), 0);
    }

    private static void promise10ASecondNackIsNothing() {
        NameNet net = new NameNet(0, 6, 9);
        for (int face = 0; face < 3; face++) {
            net.link(0, face, face + 1, 0);
            net.announce(face + 1, 0, true);
            Check.carry(net, face + 1, 0, 3);
        }
        Nets.drop(net, 0);
        net.ask(0, 0, 3, 9);
        Check.carry(net, 0, 0, 0);
        net.alter(1, 0, true);
        Check.carry(net, 1, 0, 2);
        Check.due("tries face 1", net.waiting(0, 3), 1);
        Check.carry(net, 1, 0, 2);
        Check.due("does not try face 2", net.waiting(0, 4), 0);
        Check.carry(net, 0, 1, 0);
        Check.carry(net, 2, 0, 2);
        Check.due("tries face 2", net.waiting(0, 4), 1);
    }

    private static void promise10ANackOfAnOlderNonceIsNothing() {
        NameNet net = new NameNet(0, 6, 1);
        net.link(0, 0, 1, 0);
        net.announce(1, 0, true);
        Check.carry(net, 1, 0, 3);
        net.ask(0, 0, 0, 9);
        Check.carry(net, 0, 0, 0);
        Check.due("the entry ends", net.tick(), 1);
        net.ask(0, 0, 0, 9);
        Check.carry(net, 1, 0, 2);
        Check.due("the second waits still", net.request(1, 0), 0);
        Check.due("its entry is there", net.waiting(0, 0), 1);
        Check.carry(net, 0, 0, 0);
        Check.carry(net, 1, 0, 2);
        Check.due("refused by its own nack", net.request(1, 0), 2);
    }

    private static void promise10AFailureTellsAllAskers() {
        NameNet net = new NameNet(0, 6, 9);
        net.link(0, 0, 1, 0);
        net.link(2, 0, 1, 1);
        net.link(1, 2, 3, 0);
        int a = Check.make(net, "/a");
        net.announce(3, a, true);
        Check.carry(net, 3, 0, 3);
        Check.carry(net, 1, 0, 3);
        Check.carry(net, 1, 1, 3);
        Nets.drop(net, 0);
        Nets.drop(net, 2);
        net.ask(0, a, 0, 5);
        net.ask(2, a, 0, 5);
        net.ask(1, a, 0, 5);
        Check.carry(net, 0, 0, 0);
        Check.carry(net, 2, 0, 0);
        Check.due("one errand", net.waiting(1, 4), 1);
        Check.carry(net, 1, 2, 0);
        Check.carry(net, 3, 0, 2);
        Check.due("refused at node 1", net.request(2, 0), 2);
        Check.carry(net, 1, 0, 2);
        Check.carry(net, 1, 1, 2);
        Check.due("refused at node 0, by its own nonce", net.request(0, 0), 2);
        Check.due("refused at node 2, by its own nonce", net.request(1, 0), 2);
        Check.due("the entry is gone", net.waiting(1, 0), 0);
    }

    private static void promise10ADataEndsAllEntriesThatItAnswers() {
        NameNet net = Nets.line(0, 6, 9);
        int ab = Check.make(net, "/a/b");
        int a = net.parent(ab);
        int abc = Check.make(net, "/a/b/c");
        net.publish(2, ab, 8, 0);
        net.ask(0, a, 1, 9);
        net.ask(0, ab, 0, 9);
        net.ask(0, ab, 2, 9);
        net.ask(0, a, 0, 9);
        net.ask(0, 0, 3, 9);
        net.ask(0, abc, 1, 9);
        Check.due("six entries", net.waiting(0, 0), 6);
        net.alter(0, 0, false);
        Check.carry(net, 0, 0, 0);
        Check.carry(net, 1, 1, 0);
        Check.carry(net, 2, 0, 1);
        Check.carry(net, 1, 0, 1);
        Check.request(net, 0, 1, ab, 8);
        Check.request(net, 1, 1, ab, 8);
        Check.request(net, 2, 1, ab, 8);
        Check.request(net, 3, 0, -1, 0);
        Check.request(net, 4, 1, ab, 8);
        Check.request(net, 5, 0, -1, 0);
        Check.due("two entries are left", net.waiting(0, 0), 2);
    }

    private static void promise10AStrayDataIsLost() {
        NameNet net = Nets.line(6, 6, 2);
        int a = Check.make(net, "/a");
        net.publish(2, a, 8, 9);
        net.ask(0, a, 0, 9);
        Check.carry(net, 0, 0, 0);
        Check.carry(net, 1, 1, 0);
        net.tick();
        Check.due("two entries end", net.tick(), 2);
        Check.carry(net, 2, 0, 1);
        Check.due("not kept", net.waiting(1, 1), 0);
        Check.due("not sent on", net.waiting(1, 2), 0);
        Check.request(net, 0, 3, -1, 0);
        net.turn(0, 0, false);
        net.ask(1, a, 0, 9);
        Check.carry(net, 1, 1, 0);
        net.alter(2, 0, true);
        Check.carry(net, 2, 0, 1);
        Check.due("kept", net.stored(1, a), 0);
        Check.carry(net, 2, 0, 1);
        Check.due("nothing by the second one", net.waiting(1, 1), 1);
    }

    private static void promise12EndsAsksAndEntries() {
        NameNet net = Nets.line(0, 6, 3);
        int a = Check.make(net, "/a");
        int b = Check.make(net, "/b");
        net.ask(0, a, 0, 9);
        net.ask(1, b, 0, 9);
        Check.due("tick 1", net.tick(), 0);
        Check.carry(net, 0, 0, 0);
        net.ask(0, b, 0, 9);
        Check.due("tick 2", net.tick(), 0);
        Check.due("tick 3: /a at node 0 and /b at node 1", net.tick(), 2);
        Check.due("node 0", net.waiting(0, 0), 1);
        Check.due("node 1", net.waiting(1, 0), 1);
        Check.due("nothing is sent", net.waiting(1, 2), 0);
        Check.due("tick 4", net.tick(), 2);
        Check.due("none at node 0", net.waiting(0, 0), 0);
        Check.due("none at node 1", net.waiting(1, 0), 0);
        Check.due("tick 5", net.tick(), 0);
    }

    private static void promise12MakesRequestsLate() {
        NameNet net = Nets.line(0, 6, 2);
        int a = Check.make(net, "/a");
        net.ask(0, a, 0, 9);
        net.tick();
        net.ask(0, a, 0, 9);
        Check.due("the first waits", net.request(0, 0), 0);
        Check.due("the entry has a newer ask", net.tick(), 0);
        Check.due("the first is late", net.request(0, 0), 3);
        Check.due("the second waits", net.request(1, 0), 0);
        net.publish(2, a, 4, 0);
        Check.carry(net, 0, 0, 0);
        Check.carry(net, 1, 1, 0);
        Check.carry(net, 2, 0, 1);
        Check.carry(net, 1, 0, 1);
        Check.request(net, 0, 3, -1, 0);
        Check.request(net, 1, 1, a, 4);
        net.tick();
        net.tick();
        Check.request(net, 1, 1, a, 4);
    }

    /** An ask that ended is as if it had not been: the next interest from there only waits. */
    private static void promise12AnAskCanBeRenewed() {
        NameNet net = twoWays(0, 6);
        int a = Check.make(net, "/a");
        net.link(4, 0, 0, 2);
        net.announce(0, 0, true);
        Check.carry(net, 0, 2, 3);
        Nets.drop(net, 0);
        net.ask(0, a, 0, 9);
        Check.due("the app nacks, face 0 is next", net.waiting(0, 2), 1);
        for (int i = 0; i < 5; i++) {
            net.tick();
        }
        net.ask(4, a, 0, 9);
        Check.carry(net, 4, 0, 0);
        Check.due("only waits", net.waiting(0, 3), 0);
        for (int i = 0; i < 4; i++) {
            net.tick();
        }
        Check.due("the app's ask ended, the entry stays", net.waiting(0, 0), 1);
        Check.due("late", net.request(0, 0), 3);
        net.ask(0, a, 0, 9);
        Check.due("the app had no ask: it only waits", net.waiting(0, 3), 0);
        net.ask(0, a, 0, 9);
        Check.due("the app had an ask: passed on", net.waiting(0, 3), 1);
    }

    private static void promise19TellsRequests() {
        NameNet net = Nets.line(0, 6, 1);
        int a = Check.make(net, "/a");
        Check.due("none yet", net.request(0, 0), -1);
        net.publish(1, a, -1, 0);
        net.announce(1, a, true);
        net.ask(1, a, 0, 9);
        net.ask(0, a, 0, 9);
        net.ask(3, a, 0, 9);
        Check.request(net, 0, 1, a, -1);
        Check.request(net, 1, 0, -1, 0);
        Check.request(net, 2, 2, -1, 0);
        net.tick();
        Check.request(net, 0, 1, a, -1);
        Check.request(net, 1, 3, -1, 0);
        Check.request(net, 2, 2, -1, 0);
        Check.due("request -1", net.request(-1, 0), -1);
        Check.due("request 3", net.request(3, 2), -1);
        Check.due("what -1", net.request(0, -1), -1);
        Check.due("what 3", net.request(0, 3), -1);
    }
}
