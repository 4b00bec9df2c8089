import java.util.ArrayList;
import java.util.List;
import java.util.function.Supplier;
import java.util.function.ToIntFunction;

/**
 * "A call that is refused changes nothing but, where it takes it, the text." Each refused call is
 * made on one of two objects with the same past; then both must look the same, and go on the same.
 */
public final class RefusalTest {
    public static void main(String[] args) {
        Check.says("A call that is refused changes nothing but, where it takes it, the text.");
        write();
        name();
        links();
        announce();
        publish();
        ask();
        carryAndAlter();
        fetch();
        pump();
        looks();
        Check.end();
    }

    private static void refuse(String what, int answer, Supplier<NameNet> past,
            ToIntFunction<NameNet> call) {
        NameNet tried = past.get();
        Check.due(what, call.applyAsInt(tried), answer);
        Check.due(what + ", once more", call.applyAsInt(tried), answer);
        List<Integer> want = lookAndGoOn(past.get());
        List<Integer> got = lookAndGoOn(tried);
        for (int i = 0; i < want.size(); i++) {
            Check.due(what + ": answer " + i + " behind it", got.get(i), want.get(i));
        }
    }

    private static int number(boolean answer) {
        return answer ? 1 : 0;
    }

    /** Some 350 calls, so that with its past an object stays below the 512 that it is made for. */
    private static List<Integer> lookAndGoOn(NameNet net) {
        List<Integer> seen = new ArrayList<>();
        for (int name = 0; name <= 48; name++) {
            seen.add(net.parent(name));
        }
        for (int node = 0; node < 5; node++) {
            for (int what = 0; what < 6; what++) {
                seen.add(net.waiting(node, what));
                seen.add(net.stored(node, what));
            }
            for (int what = 0; what < 4; what++) {
                seen.add(net.fetched(node, what));
            }
            for (int name = 0; name < 4; name++) {
                for (int face = 0; face < 5; face++) {
                    seen.add(net.cost(node, name, face));
                }
            }
        }
        for (int request = 0; request < 9; request++) {
            for (int what = 0; what < 3; what++) {
                seen.add(net.request(request, what));
            }
        }
        seen.add(number(net.write('a')));
        seen.add(net.name());
        for (int node = 0; node < 5; node++) {
            seen.add(net.pump(node));
        }
        seen.add(net.announce(0, 1, true));
        seen.add(net.ask(0, 1, 0, 9));
        for (int i = 0; i < 40; i++) {
            seen.add(net.carry(i % 5, i / 5 % 4));
        }
        seen.add(net.tick());
        for (int request = 0; request < 9; request++) {
            seen.add(net.request(request, 0));
        }
        return seen;
    }

    /**
     * Links 0.0 - 1.0, 1.1 - 2.0, 0.1 - 2.1 and 3.0 - 1.2, which is down; the names /a, /a/b, /c
     * and /c/0, /c/1 of a fetch at node 0; routes, entries, stores and wires with something there;
     * and the text "/".
     */
    private static NameNet busy() {
        NameNet net = new NameNet(2, 3, 4);
        net.link(0, 0, 1, 0);
        net.link(1, 1, 2, 0);
        net.link(0, 1, 2, 1);
        net.link(3, 0, 1, 2);
        net.turn(3, 0, false);
        Check.make(net, "/a/b");
        Check.make(net, "/c");
        net.announce(2, 1, true);
        net.announce(1, 0, true);
        net.carry(2, 0);
        net.carry(2, 1);
        net.carry(1, 0);
        net.carry(1, 0);
        net.publish(2, 2, 7, 3);
        net.publish(1, 4, 9, 0);
        net.ask(0, 2, 0, 9);
        net.carry(0, 1);
        net.carry(0, 1);
        net.tick();
        net.fetch(0, 3, 2, 1);
        net.pump(0);
        net.ask(0, 1, 1, 9);
        net.ask(2, 2, 2, 0);
        net.announce(2, 0, true);
        net.announce(2, 0, false);
        net.write('/');
        return net;
    }

    private static NameNet withoutText() {
        NameNet net = busy();
        net.name();
        return net;
    }

    /** Node 4 holds the fetches that made the names. */
    private static NameNet allNames() {
        NameNet net = new NameNet(1, 1, 1);
        for (int name = 0; name < 4; name++) {
            net.fetch(4, name, 10, 1);
        }
        net.fetch(0, 4, 6, 2);
        net.pump(0);
        net.fetch(4, 4, 7, 2);
        Check.due("48 names", net.parent(47), 4);
        return net;
    }

    private static NameNet tenRoutes() {
        NameNet net = Nets.star(2, 1, 1, 1);
        net.fetch(4, 0, 10, 1);
        net.fetch(4, 1, 1, 1);
        for (int name = 0; name < 10; name++) {
            net.announce(0, name, true);
        }
        net.announce(0, 2, false);
        return net;
    }

    private static NameNet allRequests() {
        NameNet net = Nets.pair(1, 1, 1);
        for (int i = 0; i < 120; i++) {
            net.ask(i % 5, 0, i % 4, i % 10);
        }
        net.fetch(0, 0, 2, 1);
        return net;
    }

    private static NameNet fullWire() {
        NameNet net = new NameNet(1, 1, 1);
        net.link(0, 0, 1, 0);
        for (int i = 0; i < 9; i++) {
            net.announce(0, 0, i % 2 == 0);
        }
        return net;
    }

    private static NameNet broken() {
        NameNet net = new NameNet(1, 1, 1);
        net.fetch(0, 0, 2, 1);
        for (int i = 0; i < 4; i++) {
            net.pump(0);
        }
        Check.due("broken", net.fetched(0, 2), 1);
        return net;
    }

    private static NameNet allHad() {
        NameNet net = new NameNet(1, 1, 1);
        net.fetch(0, 0, 1, 1);
        net.announce(0, 0, true);
        net.publish(0, 1, 5, 0);
        net.pump(0);
        net.pump(0);
        Check.due("all is had", net.fetched(0, 0), 1);
        return net;
    }

    private static NameNet fullText() {
        NameNet net = new NameNet(1, 1, 1);
        Check.write(net, "/a                      ");
        return net;
    }

    private static void write() {
        refuse("write 31", 0, RefusalTest::busy, net -> number(net.write((char) 31)));
        refuse("write 127", 0, RefusalTest::busy, net -> number(net.write((char) 127)));
        refuse("write 65535", 0, RefusalTest::busy, net -> number(net.write((char) 65535)));
        refuse("write a 25th", 0, RefusalTest::fullText, net -> number(net.write('a')));
    }

    private static void name() {
        for (String text : new String[] {"", "c", "/c/", "/x/y/", "/x/y/z/z/z", "/abcd", "/x/Y"}) {
            refuse("name " + text, -1, RefusalTest::withoutText, net -> Check.name(net, text));
        }
        for (String text : new String[] {"/x", "/x/y/z", "/0/x"}) {
            refuse("name " + text, -2, RefusalTest::allNames, net -> Check.name(net, text));
        }
    }

    private static void links() {
        int[][] links = {{-1, 2, 4, 0}, {5, 2, 4, 0}, {0, -1, 4, 0}, {0, 4, 4, 0}, {4, 0, 5, 2},
            {4, 0, 0, 4}, {0, 2, 0, 3}, {0, 2, 0, 2}, {0, 0, 4, 0}, {4, 0, 2, 1}, {3, 0, 4, 0},
            {4, 0, 1, 2}, {0, 0, 1, 0}};
        for (int[] l : links) {
            refuse("link", 0, RefusalTest::busy, net -> number(net.link(l[0], l[1], l[2], l[3])));
        }
        int[][] faces = {{-1, 0}, {5, 0}, {0, -1}, {0, 4}, {0, 2}};
        for (int[] f : faces) {
            refuse("turn up", 0, RefusalTest::busy, net -> number(net.turn(f[0], f[1], true)));
            refuse("turn down", 0, RefusalTest::busy, net -> number(net.turn(f[0], f[1], false)));
        }
        refuse("turn up, up", 0, RefusalTest::busy, net -> number(net.turn(0, 0, true)));
        refuse("turn down, down", 0, RefusalTest::busy, net -> number(net.turn(3, 0, false)));
        refuse("the other side", 0, RefusalTest::busy, net -> number(net.turn(1, 2, false)));
    }

    private static void announce() {
        refuse("no node", -1, RefusalTest::busy, net -> net.announce(5, 1, true));
        refuse("no name", -1, RefusalTest::busy, net -> net.announce(0, 6, true));
        refuse("no name, off", -1, RefusalTest::busy, net -> net.announce(0, -1, false));
        refuse("off, no route", -2, RefusalTest::busy, net -> net.announce(2, 3, false));
        refuse("off, heard alone", -2, RefusalTest::busy, net -> net.announce(0, 1, false));
        refuse("off, no cost", -2, RefusalTest::busy, net -> net.announce(2, 0, false));
        refuse("an eleventh", -3, RefusalTest::tenRoutes, net -> net.announce(0, 10, true));
        refuse("an eleventh, off", -2, RefusalTest::tenRoutes, net -> net.announce(0, 11, false));
    }

    private static void publish() {
        int[][] calls = {{-1, 1, 5, 0}, {5, 1, 5, 0}, {2, -1, 5, 0}, {2, 6, 5, 0}, {2, 1, 5, -1},
            {2, 1, 5, 21}, {2, 2, 5, 0}, {0, 2, 5, 0}};
        for (int[] p : calls) {
            refuse("publish", 0, RefusalTest::busy,
                    net -> number(net.publish(p[0], p[1], p[2], p[3])));
        }
    }

    private static void ask() {
        int[][] calls = {{-1, 1, 0, 9}, {5, 1, 0, 9}, {0, -1, 0, 9}, {0, 6, 0, 9}, {0, 1, -1, 9},
            {0, 1, 4, 9}, {0, 1, 0, -1}, {0, 1, 0, 10}};
        for (int[] a : calls) {
            refuse("ask", -1, RefusalTest::busy, net -> net.ask(a[0], a[1], a[2], a[3]));
        }
        refuse("the 121st", -2, RefusalTest::allRequests, net -> net.ask(0, 0, 0, 9));
        refuse("no hops", -1, RefusalTest::allRequests, net -> net.ask(0, 0, 0, 10));
    }

    private static void carryAndAlter() {
        int[][] faces = {{-1, 0}, {5, 0}, {0, -1}, {0, 4}, {0, 2}, {3, 0}, {4, 0}};
        for (int[] f : faces) {
            refuse("carry", -1, RefusalTest::busy, net -> net.carry(f[0], f[1]));
            refuse("alter", 0, RefusalTest::busy, net -> number(net.alter(f[0], f[1], false)));
            refuse("twice", 0, RefusalTest::busy, net -> number(net.alter(f[0], f[1], true)));
        }
        refuse("twice and eight are", 0, RefusalTest::fullWire,
                net -> number(net.alter(0, 0, true)));
    }

    private static void fetch() {
        int[][] calls = {{-1, 1, 1, 1}, {5, 1, 1, 1}, {0, -1, 1, 1}, {0, 6, 1, 1}, {0, 1, 0, 1},
            {0, 1, 11, 1}, {0, 1, 1, 0}, {0, 1, 1, 5}};
        for (int[] f : calls) {
            refuse("fetch", 0, RefusalTest::busy,
                    net -> number(net.fetch(f[0], f[1], f[2], f[3])));
        }
        refuse("no room for one", 0, RefusalTest::allNames, net -> number(net.fetch(0, 5, 1, 1)));
        refuse("no room for the last", 0, RefusalTest::allNames,
                net -> number(net.fetch(0, 4, 8, 1)));
        Supplier<NameNet> four = () -> {
            NameNet net = new NameNet(1, 1, 1);
            Check.make(net, "/a/b/c/d");
            net.fetch(0, 3, 1, 1);
            return net;
        };
        refuse("four components", 0, four, net -> number(net.fetch(0, 4, 1, 1)));
    }

    private static void pump() {
        refuse("no node", -1, RefusalTest::busy, net -> net.pump(5));
        refuse("no fetch", -1, RefusalTest::busy, net -> net.pump(1));
        refuse("broken", -2, RefusalTest::broken, net -> net.pump(0));
        refuse("all is had", -3, RefusalTest::allHad, net -> net.pump(0));
        refuse("all wait or are without room", 0, RefusalTest::allRequests, net -> net.pump(0));
    }

    private static void looks() {
        refuse("parent", -1, RefusalTest::busy, net -> net.parent(6));
        refuse("fetched", -1, RefusalTest::busy, net -> net.fetched(0, 4));
        refuse("fetched, no fetch", -1, RefusalTest::busy, net -> net.fetched(1, 0));
        refuse("cost", -1, RefusalTest::busy, net -> net.cost(0, 1, 5));
        refuse("waiting", -1, RefusalTest::busy, net -> net.waiting(0, 6));
        refuse("stored", -1, RefusalTest::busy, net -> net.stored(2, 1));
        refuse("request", -1, RefusalTest::busy, net -> net.request(0, 3));
        refuse("no request", -1, RefusalTest::busy, net -> net.request(4, 0));
    }
}
