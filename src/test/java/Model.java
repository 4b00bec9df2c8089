import java.util.ArrayDeque;
import java.util.ArrayList;
import java.util.Arrays;
import java.util.HashMap;
import java.util.List;
import java.util.Map;
import java.util.TreeMap;

/**
 * A second reading of the document, sentence by sentence and with the Java library, against which
 * RandomRunsTest holds the program. It shares no code with it.
 */
final class Model {
    record Interest(String name, int flags, int nonce, int hops) { }

    record Data(String name, int content, int period) { }

    record Nack(String name, int flags, int nonce) { }

    record Notice(int origin, String name, int serial, int cost) { }

    record Key(String name, int flags) { }

    record Origin(int node, String name) { }

    record Place(int node, int face) { }

    record Ask(int nonce, int end) { }

    static final class Errand {
        int nonce;
        boolean nacked;
    }

    static final class Entry {
        Key key;
        int latestHops;
        TreeMap<Integer, Ask> asks = new TreeMap<>();
        TreeMap<Integer, Errand> errands = new TreeMap<>();
    }

    static final class Route {
        int serial;
        TreeMap<Integer, Integer> costs = new TreeMap<>();

        Integer least() {
            return costs.values().stream().min(Integer::compare).orElse(null);
        }
    }

    record Kept(Data data, int until) { }

    static final class Request {
        int node;
        Key key;
        int since;
        int state;
        Data with;
    }

    static final class Segment {
        String name;
        int state;
        int tries;
        Request by;
    }

    static final class Fetch {
        List<Segment> segments = new ArrayList<>();
        int window;
        boolean broken;

        long count(int state) {
            return segments.stream().filter(s -> s.state == state).count();
        }
    }

    final int store;
    final int pending;
    final int life;
    int now;
    StringBuilder text = new StringBuilder();
    /** A name is its text, the name without components "". */
    final List<String> names = new ArrayList<>(List.of(""));
    final Map<Place, Place> links = new HashMap<>();
    final Map<Place, Boolean> up = new HashMap<>();
    final Map<Place, ArrayDeque<Object>> wires = new HashMap<>();
    final List<Map<Origin, Route>> routes = new ArrayList<>();
    final List<List<Kept>> stores = new ArrayList<>();
    final List<List<Entry>> entries = new ArrayList<>();
    final List<List<Data>> made = new ArrayList<>();
    final List<Request> requests = new ArrayList<>();
    final Fetch[] fetches = new Fetch[5];

    Model(int store, int pending, int life) {
        this.store = store < 0 ? 0 : store > 6 ? 6 : store;
        this.pending = pending < 1 ? 1 : pending > 6 ? 6 : pending;
        this.life = life < 1 ? 1 : life > 9 ? 9 : life;
        for (int n = 0; n < 5; n++) {
            routes.add(new HashMap<>());
            stores.add(new ArrayList<>());
            entries.add(new ArrayList<>());
            made.add(new ArrayList<>());
            for (int f = 0; f < 4; f++) {
                wires.put(new Place(n, f), new ArrayDeque<>());
            }
        }
    }

    // ---- the calls

    boolean write(char c) {
        if (text.length() == 24 || c < 32 || c > 126) {
            return false;
        }
        text.append(c);
        return true;
    }

    int name() {
        String t = text.toString();
        text = new StringBuilder();
        if (t.equals("/")) {
            return 0;
        }
        if (!t.matches("(/[a-z0-9]{1,3}){1,4}")) {
            return -1;
        }
        return make(List.of(t)) ? names.indexOf(t) : -2;
    }

    int parent(int name) {
        return name <= 0 || name >= names.size() ? -1 : names.indexOf(shorter(names.get(name)));
    }

    boolean link(int a, int f, int b, int g) {
        Place one = new Place(a, f);
        Place two = new Place(b, g);
        if (!wires.containsKey(one) || !wires.containsKey(two) || a == b
                || links.containsKey(one) || links.containsKey(two)) {
            return false;
        }
        links.put(one, two);
        links.put(two, one);
        up.put(one, true);
        up.put(two, true);
        return true;
    }

    boolean turn(int node, int face, boolean on) {
        Place one = new Place(node, face);
        if (!links.containsKey(one) || up.get(one) == on) {
            return false;
        }
        for (Place side : List.of(one, links.get(one))) {
            up.put(side, on);
            if (!on) {
                wires.get(side).clear();
            }
        }
        return true;
    }

    int announce(int node, int name, boolean on) {
        if (!isNode(node) || !isName(name)) {
            return -1;
        }
        Origin origin = new Origin(node, names.get(name));
        Route route = routes.get(node).get(origin);
        if (!on && (route == null || route.costs.isEmpty())) {
            return -2;
        }
        if (route == null
                && routes.get(node).keySet().stream().filter(o -> o.node() == node).count() == 10) {
            return -3;
        }
        if (route == null) {
            route = new Route();
            routes.get(node).put(origin, route);
        }
        route.serial++;
        route.costs.clear();
        if (on) {
            route.costs.put(4, 0);
        }
        for (int f = 0; f < 4; f++) {
            send(node, f, new Notice(node, names.get(name), route.serial, on ? 1 : 99), null);
        }
        return route.serial;
    }

    boolean publish(int node, int name, int content, int period) {
        if (!isNode(node) || !isName(name) || period < 0 || period > 20) {
            return false;
        }
        for (List<Data> datas : made) {
            for (Data data : datas) {
                if (data.name().equals(names.get(name))) {
                    return false;
                }
            }
        }
        made.get(node).add(new Data(names.get(name), content, period));
        return true;
    }

    int ask(int node, int name, int flags, int hops) {
        if (!isNode(node) || !isName(name) || flags < 0 || flags > 3 || hops < 0 || hops > 9) {
            return -1;
        }
        if (requests.size() == 120) {
            return -2;
        }
        Request request = new Request();
        request.node = node;
        request.key = new Key(names.get(name), flags);
        request.since = now;
        requests.add(request);
        int number = requests.size() - 1;
        interest(node, 4, new Interest(names.get(name), flags, 1000 + number, hops));
        return number;
    }

    int carry(int node, int face) {
        Place from = new Place(node, face);
        if (!wires.containsKey(from) || wires.get(from).isEmpty()) {
            return -1;
        }
        Object packet = wires.get(from).removeFirst();
        Place to = links.get(from);
        if (packet instanceof Interest i) {
            interest(to.node(), to.face(), i);
            return 0;
        }
        if (packet instanceof Data d) {
            data(to.node(), to.face(), d);
            return 1;
        }
        if (packet instanceof Nack n) {
            nack(to.node(), to.face(), n);
            return 2;
        }
        notice(to.node(), to.face(), (Notice) packet);
        return 3;
    }

    boolean alter(int node, int face, boolean twice) {
        ArrayDeque<Object> wire = wires.get(new Place(node, face));
        if (wire == null || wire.isEmpty() || twice && wire.size() == 8) {
            return false;
        }
        if (twice) {
            wire.addLast(wire.getFirst());
        } else {
            wire.removeFirst();
        }
        return true;
    }

    int tick() {
        now++;
        int gone = 0;
        for (List<Entry> list : entries) {
            for (Entry entry : list) {
                entry.asks.values().removeIf(ask -> ask.end() <= now);
            }
            int before = list.size();
            list.removeIf(entry -> entry.asks.isEmpty());
            gone += before - list.size();
        }
        for (Request request : requests) {
            if (request.state == 0 && now >= request.since + life) {
                request.state = 3;
            }
        }
        return gone;
    }

    boolean fetch(int node, int name, int count, int window) {
        if (!isNode(node) || !isName(name) || count < 1 || count > 10 || window < 1 || window > 4
                || components(names.get(name)) == 4) {
            return false;
        }
        List<String> wanted = new ArrayList<>();
        for (int i = 0; i < count; i++) {
            wanted.add(names.get(name) + "/" + i);
        }
        if (!make(wanted)) {
            return false;
        }
        Fetch fetch = new Fetch();
        fetch.window = window;
        for (String segmentName : wanted) {
            Segment segment = new Segment();
            segment.name = segmentName;
            fetch.segments.add(segment);
        }
        fetches[node] = fetch;
        return true;
    }

    int pump(int node) {
        if (!isNode(node) || fetches[node] == null) {
            return -1;
        }
        Fetch fetch = fetches[node];
        if (fetch.broken) {
            return -2;
        }
        if (fetch.count(2) == fetch.segments.size()) {
            return -3;
        }
        for (Segment segment : fetch.segments) {
            if (segment.state == 1 && segment.by.state == 1) {
                segment.state = 2;
            } else if (segment.state == 1 && segment.by.state >= 2) {
                segment.state = 0;
                if (segment.tries == 3) {
                    fetch.broken = true;
                }
            }
        }
        int asked = 0;
        if (fetch.broken) {
            return 0;
        }
        for (Segment segment : fetch.segments) {
            if (segment.state == 0 && fetch.count(1) < fetch.window) {
                int number = ask(node, names.indexOf(segment.name), 0, 9);
                if (number < 0) {
                    return asked;
                }
                segment.tries++;
                segment.state = 1;
                segment.by = requests.get(number);
                asked++;
            }
        }
        return asked;
    }

    int fetched(int node, int what) {
        if (!isNode(node) || fetches[node] == null || what < 0 || what > 3) {
            return -1;
        }
        Fetch fetch = fetches[node];
        if (what == 2) {
            return fetch.broken ? 1 : 0;
        }
        if (what < 2) {
            return (int) fetch.count(what == 0 ? 2 : 1);
        }
        return fetch.segments.stream().filter(s -> s.state == 2)
                .mapToInt(s -> s.by.with.content()).sum();
    }

    int cost(int node, int name, int face) {
        if (!isNode(node) || !isName(name) || face < 0 || face > 4) {
            return -1;
        }
        Integer cost = costs(node, names.get(name)).get(face);
        return cost == null ? -1 : cost;
    }

    int waiting(int node, int what) {
        if (!isNode(node) || what < 0 || what > 5) {
            return -1;
        }
        return what == 0 ? entries.get(node).size() : what == 1 ? stores.get(node).size()
                : wires.get(new Place(node, what - 2)).size();
    }

    int stored(int node, int name) {
        if (!isNode(node) || !isName(name)) {
            return -1;
        }
        return stores.get(node).stream().map(k -> k.data().name()).toList()
                .indexOf(names.get(name));
    }

    int request(int request, int what) {
        if (request < 0 || request >= requests.size() || what < 0 || what > 2) {
            return -1;
        }
        Request r = requests.get(request);
        if (what == 0) {
            return r.state;
        }
        if (r.state != 1) {
            return what == 1 ? -1 : 0;
        }
        return what == 1 ? names.indexOf(r.with.name()) : r.with.content();
    }

    // ---- the terms

    static boolean isNode(int node) {
        return node >= 0 && node <= 4;
    }

    boolean isName(int name) {
        return name >= 0 && name < names.size();
    }

    static String shorter(String name) {
        return name.substring(0, name.lastIndexOf('/'));
    }

    static int components(String name) {
        return (int) name.chars().filter(c -> c == '/').count();
    }

    /** All of them with their beginnings, or none. */
    boolean make(List<String> wanted) {
        List<String> all = new ArrayList<>(names);
        for (String name : wanted) {
            StringBuilder beginning = new StringBuilder();
            for (String part : Arrays.asList(name.substring(1).split("/"))) {
                beginning.append('/').append(part);
                if (!all.contains(beginning.toString())) {
                    all.add(beginning.toString());
                }
            }
        }
        if (all.size() > 48) {
            return false;
        }
        names.clear();
        names.addAll(all);
        return true;
    }

    static boolean isPrefix(String prefix, String name) {
        return (name + "/").startsWith(prefix + "/");
    }

    static boolean answers(String data, String name, int flags) {
        return data.equals(name) || flags % 2 == 1 && isPrefix(name, data);
    }

    Map<Integer, Integer> costs(int node, String name) {
        Map<Integer, Integer> result = new TreeMap<>();
        routes.get(node).forEach((origin, route) -> {
            if (origin.name().equals(name)) {
                route.costs.forEach((face, cost) -> result.merge(face, cost, Math::min));
            }
        });
        return result;
    }

    /** The key is what a data or nack out of face 4 belongs to. */
    void send(int node, int face, Object packet, Key key) {
        if (face < 4) {
            Place from = new Place(node, face);
            if (links.containsKey(from) && up.get(from) && wires.get(from).size() < 8) {
                wires.get(from).addLast(packet);
            }
            return;
        }
        if (packet instanceof Interest i) {
            Data best = null;
            for (Data data : made.get(node)) {
                if (answers(data.name(), i.name(), i.flags()) && (best == null
                        || names.indexOf(data.name()) < names.indexOf(best.name()))) {
                    best = data;
                }
            }
            if (best != null) {
                data(node, 4, best);
            } else {
                nack(node, 4, new Nack(i.name(), i.flags(), i.nonce()));
            }
            return;
        }
        for (Request request : requests) {
            if (request.state == 0 && request.node == node && request.key.equals(key)) {
                if (packet instanceof Data data) {
                    request.state = 1;
                    request.with = data;
                } else {
                    request.state = 2;
                }
            }
        }
    }

    Entry entryOf(int node, Key key) {
        return entries.get(node).stream().filter(e -> e.key.equals(key)).findFirst().orElse(null);
    }

    void interest(int node, int f, Interest i) {
        Key key = new Key(i.name(), i.flags());
        Nack nack = new Nack(i.name(), i.flags(), i.nonce());
        Entry entry = entryOf(node, key);
        if (entry != null) {
            boolean errand = entry.errands.values().stream().anyMatch(e -> e.nonce == i.nonce());
            boolean ask = entry.asks.entrySet().stream()
                    .anyMatch(e -> e.getKey() != f && e.getValue().nonce() == i.nonce());
            if (errand || ask) {
                send(node, f, nack, key);
                return;
            }
        }
        Kept best = null;
        for (Kept kept : stores.get(node)) {
            if (answers(kept.data().name(), i.name(), i.flags())
                    && (i.flags() < 2 || kept.until() > now)
                    && (best == null || names.indexOf(kept.data().name())
                            < names.indexOf(best.data().name()))) {
                best = kept;
            }
        }
        if (best != null) {
            stores.get(node).remove(best);
            stores.get(node).add(best);
            send(node, f, best.data(), key);
            return;
        }
        if (entry == null && entries.get(node).size() == pending) {
            send(node, f, nack, key);
            return;
        }
        boolean isNew = entry == null;
        if (isNew) {
            entry = new Entry();
            entry.key = key;
            entries.get(node).add(entry);
        }
        entry.latestHops = i.hops();
        Ask before = entry.asks.put(f, new Ask(i.nonce(), now + life));
        if (isNew || before != null) {
            pass(node, entry, i.nonce(), i.hops());
        }
    }

    void pass(int node, Entry entry, int nonce, int hops) {
        String prefix = entry.key.name();
        while (costs(node, prefix).isEmpty() && !prefix.isEmpty()) {
            prefix = shorter(prefix);
        }
        int chosen = -1;
        int least = 0;
        for (Map.Entry<Integer, Integer> c : costs(node, prefix).entrySet()) {
            int face = c.getKey();
            boolean open = face == 4 || !entry.asks.containsKey(face)
                    && links.containsKey(new Place(node, face)) && up.get(new Place(node, face));
            if (open && !entry.errands.containsKey(face) && (chosen < 0 || c.getValue() < least)) {
                chosen = face;
                least = c.getValue();
            }
        }
        if (chosen == 4 || chosen >= 0 && hops > 0) {
            Errand errand = new Errand();
            errand.nonce = nonce;
            entry.errands.put(chosen, errand);
            send(node, chosen, new Interest(entry.key.name(), entry.key.flags(), nonce,
                    chosen == 4 ? hops : hops - 1), null);
        } else if (entry.errands.values().stream().allMatch(e -> e.nacked)) {
            entries.get(node).remove(entry);
            entry.asks.forEach((face, ask) -> send(node, face,
                    new Nack(entry.key.name(), entry.key.flags(), ask.nonce()), entry.key));
        }
    }

    void data(int node, int f, Data d) {
        List<Entry> answered = new ArrayList<>();
        for (Entry entry : entries.get(node)) {
            if (answers(d.name(), entry.key.name(), entry.key.flags())
                    && entry.errands.containsKey(f)) {
                answered.add(entry);
            }
        }
        if (answered.isEmpty()) {
            return;
        }
        if (store > 0) {
            List<Kept> kept = stores.get(node);
            kept.removeIf(k -> k.data().name().equals(d.name()));
            if (kept.size() == store) {
                kept.remove(0);
            }
            kept.add(new Kept(d, now + d.period()));
        }
        entries.get(node).removeAll(answered);
        for (Entry entry : answered) {
            entry.asks.keySet().forEach(face -> send(node, face, d, entry.key));
        }
    }

    void nack(int node, int f, Nack n) {
        Entry entry = entryOf(node, new Key(n.name(), n.flags()));
        if (entry == null) {
            return;
        }
        Errand errand = entry.errands.get(f);
        if (errand == null || errand.nonce != n.nonce() || errand.nacked) {
            return;
        }
        errand.nacked = true;
        pass(node, entry, n.nonce(), entry.latestHops);
    }

    void notice(int node, int f, Notice n) {
        if (n.origin() == node) {
            return;
        }
        Origin origin = new Origin(n.origin(), n.name());
        Route route = routes.get(node).get(origin);
        if (route != null && route.serial > n.serial()) {
            return;
        }
        if (route == null || route.serial < n.serial()) {
            route = new Route();
            route.serial = n.serial();
            if (n.cost() != 99) {
                route.costs.put(f, n.cost());
            }
            routes.get(node).put(origin, route);
            flood(node, f, n, n.cost() == 99 ? 99 : n.cost() + 1);
            return;
        }
        Integer before = route.least();
        Integer had = route.costs.get(f);
        if (n.cost() != 99 && (had == null || had > n.cost())) {
            route.costs.put(f, n.cost());
            if (before == null || route.least() < before) {
                flood(node, f, n, route.least() + 1);
            }
        }
    }

    void flood(int node, int but, Notice n, int cost) {
        for (int f = 0; f < 4; f++) {
            if (f != but) {
                send(node, f, new Notice(n.origin(), n.name(), n.serial(), cost), null);
            }
        }
    }
}
