import java.lang.reflect.Constructor;
import java.lang.reflect.Field;
import java.lang.reflect.Member;
import java.lang.reflect.Method;
import java.lang.reflect.Modifier;
import java.util.ArrayList;
import java.util.Collections;
import java.util.List;

/** The public face is the document's and nothing else; no call throws, whatever its arguments. */
public final class FaceTest {
    private static final String[] FACE = {
        "public static final int NameNet.NONE",
        "public NameNet(int,int,int)",
        "public boolean NameNet.write(char)",
        "public int NameNet.name()",
        "public int NameNet.parent(int)",
        "public boolean NameNet.link(int,int,int,int)",
        "public boolean NameNet.turn(int,int,boolean)",
        "public int NameNet.announce(int,int,boolean)",
        "public boolean NameNet.publish(int,int,int,int)",
        "public int NameNet.ask(int,int,int,int)",
        "public int NameNet.carry(int,int)",
        "public boolean NameNet.alter(int,int,boolean)",
        "public int NameNet.tick()",
        "public boolean NameNet.fetch(int,int,int,int)",
        "public int NameNet.pump(int)",
        "public int NameNet.fetched(int,int)",
        "public int NameNet.cost(int,int,int)",
        "public int NameNet.waiting(int,int)",
        "public int NameNet.stored(int,int)",
        "public int NameNet.request(int,int)",
    };

    public static void main(String[] args) {
        theFaceIsTheDocuments();
        privateMethodsHaveNamesOfTheirOwn();
        aNewObjectIsEmpty();
        oddArgumentsNeverThrow();
        Check.end();
    }

    private static void theFaceIsTheDocuments() {
        Check.due("NONE", NameNet.NONE, -1);
        Check.due("public and final", NameNet.class.getModifiers(),
                Modifier.PUBLIC | Modifier.FINAL);
        List<String> want = new ArrayList<>(List.of(FACE));
        List<String> got = new ArrayList<>();
        for (Field f : NameNet.class.getDeclaredFields()) {
            addIfSeen(got, f, f.toString());
        }
        for (Constructor<?> c : NameNet.class.getDeclaredConstructors()) {
            addIfSeen(got, c, c.toString());
        }
        for (Method m : NameNet.class.getDeclaredMethods()) {
            addIfSeen(got, m, m.toString());
        }
        Collections.sort(want);
        Collections.sort(got);
        Check.due("the face " + got, got.equals(want), true);
    }

    private static void addIfSeen(List<String> list, Member member, String text) {
        if (!Modifier.isPrivate(member.getModifiers()) && !member.isSynthetic()) {
            list.add(text);
        }
    }

    private static void privateMethodsHaveNamesOfTheirOwn() {
        for (Method m : NameNet.class.getDeclaredMethods()) {
            boolean ofTheFace = List.of(FACE).toString().contains("." + m.getName() + "(");
            Check.due("name of " + m, ofTheFace, Modifier.isPublic(m.getModifiers()));
        }
    }

    private static void aNewObjectIsEmpty() {
        NameNet net = new NameNet(3, 3, 3);
        for (int node = 0; node < 5; node++) {
            for (int what = 0; what < 6; what++) {
                Check.due("waiting", net.waiting(node, what), 0);
            }
            for (int face = 0; face < 5; face++) {
                Check.due("cost", net.cost(node, 0, face), -1);
            }
            Check.due("stored", net.stored(node, 0), -1);
            Check.due("fetched", net.fetched(node, 0), -1);
        }
        Check.due("request", net.request(0, 0), -1);
        Check.due("parent of a second name", net.parent(1), -1);
        Check.due("tick", net.tick(), 0);
        Check.due("an empty text", net.name(), -1);
    }

    private static void oddArgumentsNeverThrow() {
        int[] odd = {Integer.MIN_VALUE, -2, -1, 0, 1, 3, 4, 5, 6, 10, 48, 120, Integer.MAX_VALUE};
        try {
            for (int p : odd) {
                for (int q : odd) {
                    NameNet net = new NameNet(p, q, p);
                    for (int i = 0; i < 2; i++) {
                        callAll(net, p, q);
                        callAll(net, q, p);
                        callAll(net, 0, p);
                        callAll(net, 1, q);
                    }
                }
            }
        } catch (RuntimeException e) {
            e.printStackTrace(System.out);
            Check.due("nothing is thrown", 1, 0);
        }
    }

    private static void callAll(NameNet net, int p, int q) {
        net.write((char) p);
        net.name();
        net.parent(p);
        net.link(p, q, q, p);
        net.link(0, p, 1, q);
        net.turn(p, q, q > p);
        net.announce(p, q, true);
        net.publish(p, q, p, q);
        net.ask(p, q, p, q);
        net.ask(p, 0, q, p);
        net.carry(p, q);
        net.alter(p, q, true);
        net.alter(p, q, false);
        net.tick();
        net.fetch(p, q, p, q);
        net.fetch(p, 0, q, p);
        net.pump(p);
        net.fetched(p, q);
        net.cost(p, q, p);
        net.waiting(p, q);
        net.stored(p, q);
        net.request(p, q);
    }
}
