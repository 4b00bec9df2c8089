import java.util.Random;

/**
 * Runs of 512 calls, drawn with fixed seeds, on a NameNet and on the Model: all answers must be the
 * same. The last calls of a run, in some runs most of them, look at what the calls before left.
 */
public final class RandomRunsTest {
    private static final int RUNS = 6000;
    private static final int CALLS = 512;
    /** The most calls of one look. */
    private static final int LOOKS = 6;
    private static final int[] ODD = {Integer.MIN_VALUE, -1000, -2, -1, 4, 5, 6, 9, 10, 11, 21, 47,
        48, 49, 120, 121, 1000, Integer.MAX_VALUE};

    private final Random random;
    private final NameNet net;
    private final Model model;
    private final int oddness;
    private final int tickWeight;
    private final int askWeight;
    private String text = "";
    private int typedTo = 0;
    private int calls = 0;

    private RandomRunsTest(long seed) {
        random = new Random(seed);
        int store = random.nextInt(10) - 1;
        int pending = random.nextInt(10) - 1;
        int life = random.nextInt(13) - 1;
        net = new NameNet(store, pending, life);
        model = new Model(store, pending, life);
        oddness = random.nextInt(4) == 0 ? 10 : 100;
        tickWeight = random.nextInt(4);
        askWeight = random.nextInt(4);
    }

    public static void main(String[] args) {
        for (long seed = 0; seed < RUNS; seed++) {
            new RandomRunsTest(seed).run(seed);
        }
        Check.end();
    }

    private void run(long seed) {
        int steps = 60 + random.nextInt(400);
        String told = null;
        while (told == null && calls < steps) {
            told = step();
        }
        int place = 0;
        while (told == null && calls + LOOKS <= CALLS) {
            told = lookAt(place);
            place++;
        }
        if (told != null) {
            Check.due("run " + seed + ", call " + calls + ": " + told, 1, 0);
        }
    }

    private int odd(int usual) {
        return random.nextInt(oddness) == 0 ? ODD[random.nextInt(ODD.length)] : usual;
    }

    private int node() {
        return odd(random.nextInt(5));
    }

    private int face() {
        return odd(random.nextInt(4));
    }

    private int aName() {
        int there = model.names.size();
        return odd(random.nextInt(random.nextBoolean() ? Math.min(there, 6) : there));
    }

    private String step() {
        if (typedTo < text.length()) {
            char c = text.charAt(typedTo++);
            return same("write " + c, net.write(c) ? 1 : 0, model.write(c) ? 1 : 0);
        }
        if (!text.isEmpty()) {
            text = "";
            return same("name", net.name(), model.name());
        }
        if (calls < 12) {
            return calls % 2 == 0 ? link() : announce();
        }
        switch (random.nextInt(30)) {
            case 0: return typeAName();
            case 1: return random.nextInt(4) == 0 ? link() : announce();
            case 2: return random.nextInt(4) == 0 ? turn() : announce();
            case 3: case 4: return publish();
            case 5: return alter();
            case 6: return random.nextInt(4) < tickWeight
                    ? same("tick", net.tick(), model.tick()) : carry();
            case 7: return random.nextInt(3) == 0 ? fetch() : pump();
            case 8: return pump();
            case 9: case 10: case 11: case 12: case 13: return ask();
            case 14: return look();
            default: return random.nextInt(8) < askWeight ? ask() : carry();
        }
    }

    private String typeAName() {
        String letters = "aabb01/////zZ- ";
        StringBuilder made = new StringBuilder();
        if (random.nextInt(6) == 0) {
            int length = random.nextInt(27);
            for (int i = 0; i < length; i++) {
                made.append(letters.charAt(random.nextInt(letters.length())));
            }
            made.append((char) random.nextInt(140));
        } else {
            int components = random.nextInt(5);
            for (int i = 0; i < components; i++) {
                made.append('/').append(letters.charAt(random.nextInt(6)));
            }
            made.append(components == 0 ? "/" : "");
        }
        text = made.toString();
        typedTo = 0;
        return null;
    }

    private String link() {
        int a = node();
        int f = face();
        int b = node();
        int g = face();
        return same("link", net.link(a, f, b, g) ? 1 : 0, model.link(a, f, b, g) ? 1 : 0);
    }

    private String turn() {
        int n = node();
        int f = face();
        boolean up = random.nextInt(3) > 0;
        return same("turn", net.turn(n, f, up) ? 1 : 0, model.turn(n, f, up) ? 1 : 0);
    }

    private String announce() {
        int n = node();
        int name = aName();
        boolean on = random.nextInt(5) > 0;
        return same("announce", net.announce(n, name, on), model.announce(n, name, on));
    }

    private String publish() {
        int n = node();
        int name = aName();
        int content = random.nextInt();
        int period = odd(random.nextInt(21));
        return same("publish", net.publish(n, name, content, period) ? 1 : 0,
                model.publish(n, name, content, period) ? 1 : 0);
    }

    private String ask() {
        int n = node();
        int name = aName();
        int flags = odd(random.nextInt(4));
        int hops = odd(random.nextInt(3) == 0 ? random.nextInt(3) : random.nextInt(10));
        return same("ask", net.ask(n, name, flags, hops), model.ask(n, name, flags, hops));
    }

    private String carry() {
        int n = node();
        int f = face();
        for (int i = 0; i < 20 && model.waiting(n, f + 2) <= 0; i++) {
            n = node();
            f = face();
        }
        return same("carry", net.carry(n, f), model.carry(n, f));
    }

    private String alter() {
        int n = node();
        int f = face();
        for (int i = 0; i < 20 && model.waiting(n, f + 2) <= 0; i++) {
            n = node();
            f = face();
        }
        boolean twice = random.nextInt(3) > 0;
        return same("alter", net.alter(n, f, twice) ? 1 : 0, model.alter(n, f, twice) ? 1 : 0);
    }

    private String fetch() {
        int n = node();
        int name = aName();
        int count = odd(1 + random.nextInt(random.nextInt(3) == 0 ? 10 : 3));
        int window = odd(1 + random.nextInt(4));
        return same("fetch", net.fetch(n, name, count, window) ? 1 : 0,
                model.fetch(n, name, count, window) ? 1 : 0);
    }

    private String pump() {
        int n = node();
        for (int i = 0; i < 10 && model.fetched(n, 0) < 0; i++) {
            n = node();
        }
        return same("pump", net.pump(n), model.pump(n));
    }

    private String look() {
        int n = node();
        int name = aName();
        int what = odd(random.nextInt(6));
        int r = odd(random.nextInt(121));
        String told = same("cost", net.cost(n, name, what), model.cost(n, name, what));
        told = told != null ? told : same("waiting", net.waiting(n, what), model.waiting(n, what));
        told = told != null ? told : same("fetched", net.fetched(n, what), model.fetched(n, what));
        told = told != null ? told : same("stored", net.stored(n, name), model.stored(n, name));
        told = told != null ? told : same("parent", net.parent(name), model.parent(name));
        return told != null ? told : same("request", net.request(r, what), model.request(r, what));
    }

    /** Place by place all that is small, then what chance has it. */
    private String lookAt(int place) {
        if (place < 5) {
            String told = null;
            for (int what = 0; what < 6 && told == null; what++) {
                told = same("waiting", net.waiting(place, what), model.waiting(place, what));
            }
            return told;
        }
        if (place < 10) {
            String told = null;
            for (int what = 0; what < 4 && told == null; what++) {
                int node = place - 5;
                told = same("fetched", net.fetched(node, what), model.fetched(node, what));
            }
            return told;
        }
        if (place % 3 == 0) {
            int r = random.nextInt(model.requests.size() + 1);
            String told = null;
            for (int what = 0; what < 3 && told == null; what++) {
                told = same("request " + r, net.request(r, what), model.request(r, what));
            }
            return told;
        }
        return look();
    }

    private String same(String call, int got, int want) {
        calls++;
        return got == want ? null : call + " answered " + got + ", due is " + want;
    }
}
