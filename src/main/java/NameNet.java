/**
 * A network that asks for things by name. The promises that this class keeps stand, numbered, in
 * the project's document; the words used here (entry, ask, errand, notice, ...) are the document's.
 */
public final class NameNet {
    public static final int NONE = -1;

    private static final int MOST_TEXT = 24;
    private static final int MOST_NAMES = 48;
    private static final int MOST_COMPONENTS = 4;
    private static final int MOST_LETTERS = 3;
    private static final int MOST_REQUESTS = 120;
    private static final int MOST_OWN_ROUTES = 10;
    private static final int MOST_ON_WIRE = 8;
    private static final int MOST_SEGMENTS = 10;
    private static final int MOST_TRIES = 3;
    private static final int MOST_WINDOW = 4;
    private static final int MOST_HOPS = 9;
    private static final int MOST_FLAGS = 3;
    private static final int MOST_PERIOD = 20;

    private static final int NODES = 5;
    private static final int APP = 4;
    private static final int LINK_FACES = 4;
    private static final int FACES = 5;
    private static final int ROOT = 0;
    private static final int FIRST_NONCE = 1000;
    private static final int UNREACHABLE = 99;

    private static final int PREFIXED = 1;
    private static final int FRESHENED = 2;

    // The kinds of packets, as carry answers them.
    private static final int INTEREST = 0;
    private static final int DATA = 1;
    private static final int NACK = 2;
    private static final int NOTICE = 3;

    // The states of requests, as request answers them.
    private static final int WAITS = 0;
    private static final int ANSWERED = 1;
    private static final int REFUSED = 2;
    private static final int LATE = 3;

    // The states of a fetch's segments.
    private static final int WANTED = 0;
    private static final int ASKED = 1;
    private static final int HAD = 2;

    // What refused calls answer, where that is not NONE.
    private static final int TOO_MANY_NAMES = -2;
    private static final int NOT_ANNOUNCED = -2;
    private static final int TOO_MANY_ROUTES = -3;
    private static final int TOO_MANY_REQUESTS = -2;
    private static final int FETCH_BROKEN = -2;
    private static final int ALL_HAD = -3;

    private final int life;
    private int now;
    private final char[] text = new char[MOST_TEXT];
    private int textLength;
    private final int[] typed = new int[MOST_COMPONENTS];
    private final Names names = new Names();
    private final Node[] nodes = new Node[NODES];
    private final Packet[] published = new Packet[MOST_NAMES];
    private final int[] publisher = new int[MOST_NAMES];
    private final Request[] requests = new Request[MOST_REQUESTS];
    private int requestCount;

    public NameNet(int store, int pending, int life) {
        this.life = within(life, 1, 9);
        for (int i = 0; i < NODES; i++) {
            nodes[i] = new Node(i, within(store, 0, 6), within(pending, 1, 6));
        }
    }

    public boolean write(char c) {
        if (textLength >= MOST_TEXT || c < 32 || c > 126) {
            return false;
        }
        text[textLength] = c;
        textLength++;
        return true;
    }

    public int name() {
        int length = readText();
        textLength = 0;
        if (length == NONE) {
            return NONE;
        }
        int reached = ROOT;
        int known = 0;
        for (int i = 0; i < length; i++) {
            int next = names.find(reached, typed[i]);
            if (next == NONE) {
                break;
            }
            reached = next;
            known++;
        }
        if (!names.hasRoomFor(length - known)) {
            return TOO_MANY_NAMES;
        }
        for (int i = known; i < length; i++) {
            reached = names.findOrMake(reached, typed[i]);
        }
        return reached;
    }

    public int parent(int name) {
        return names.shorterOf(name);
    }

    public boolean link(int a, int f, int b, int g) {
        Face one = linkFace(a, f);
        Face other = linkFace(b, g);
        if (one == null || other == null || a == b || one.isLinked() || other.isLinked()) {
            return false;
        }
        one.join(b, g);
        other.join(a, f);
        return true;
    }

    public boolean turn(int node, int face, boolean up) {
        Face one = linkFace(node, face);
        if (one == null || one.up == up) {
            return false;
        }
        Face other = linkFace(one.otherNode, one.otherFace);
        if (other == null) {
            return false;
        }
        one.set(up);
        other.set(up);
        return true;
    }

    public int announce(int node, int name, boolean on) {
        if (!isNode(node) || !names.has(name)) {
            return NONE;
        }
        Node origin = nodes[node];
        Route route = origin.routes.find(node, name);
        if (!on && (route == null || route.costs[APP] == NONE)) {
            return NOT_ANNOUNCED;
        }
        if (route == null) {
            route = origin.routes.make(node, name);
        }
        if (route == null) {
            return TOO_MANY_ROUTES;
        }
        route.begin(route.serial + 1, APP, on ? 0 : UNREACHABLE);
        origin.spread(Packet.notice(node, name, route.serial, on ? 1 : UNREACHABLE), NONE);
        return route.serial;
    }

    public boolean publish(int node, int name, int content, int period) {
        if (!isNode(node) || !names.has(name) || period < 0 || period > MOST_PERIOD
                || published[name] != null) {
            return false;
        }
        published[name] = Packet.data(name, content, period);
        publisher[name] = node;
        return true;
    }

    public int ask(int node, int name, int flags, int hops) {
        if (!isNode(node) || !names.has(name) || flags < 0 || flags > MOST_FLAGS
                || hops < 0 || hops > MOST_HOPS) {
            return NONE;
        }
        return openRequest(nodes[node], name, flags, hops);
    }

    public int carry(int node, int face) {
        Face from = linkFace(node, face);
        if (from == null || !isNode(from.otherNode)) {
            return NONE;
        }
        Packet packet = from.first();
        if (packet == null) {
            return NONE;
        }
        from.dropFirst();
        arrive(nodes[from.otherNode], from.otherFace, packet);
        return packet.kind;
    }

    public boolean alter(int node, int face, boolean twice) {
        Face from = linkFace(node, face);
        if (from == null || from.first() == null) {
            return false;
        }
        if (twice) {
            return from.put(from.first());
        }
        from.dropFirst();
        return true;
    }

    public int tick() {
        now++;
        int gone = 0;
        for (int i = 0; i < NODES; i++) {
            gone += nodes[i].pending.dropEnded(now);
        }
        for (int i = 0; i < requestCount; i++) {
            Request request = requests[i];
            if (request.state == WAITS && now - request.since >= life) {
                request.state = LATE;
            }
        }
        return gone;
    }

    public boolean fetch(int node, int name, int count, int window) {
        if (!isNode(node) || !names.has(name) || count < 1 || count > MOST_SEGMENTS
                || window < 1 || window > MOST_WINDOW || names.lengthOf(name) >= MOST_COMPONENTS) {
            return false;
        }
        int missing = 0;
        for (int i = 0; i < count; i++) {
            if (names.find(name, segmentComponent(i)) == NONE) {
                missing++;
            }
        }
        if (!names.hasRoomFor(missing)) {
            return false;
        }
        Fetch fetch = nodes[node].fetch;
        fetch.begin(count, window);
        for (int i = 0; i < count; i++) {
            fetch.segment[i] = names.findOrMake(name, segmentComponent(i));
        }
        return true;
    }

    public int pump(int node) {
        if (!isNode(node) || !nodes[node].fetch.isThere()) {
            return NONE;
        }
        Fetch fetch = nodes[node].fetch;
        if (fetch.broken) {
            return FETCH_BROKEN;
        }
        if (fetch.countOf(HAD) == fetch.count) {
            return ALL_HAD;
        }
        fetch.settle();
        int asked = 0;
        int room = fetch.broken ? 0 : fetch.window - fetch.countOf(ASKED);
        for (int i = 0; i < fetch.count && asked < room; i++) {
            if (fetch.state[i] != WANTED) {
                continue;
            }
            int number = openRequest(nodes[node], fetch.segment[i], 0, MOST_HOPS);
            if (number < 0) {
                break;
            }
            fetch.markAsked(i, requests[number]);
            asked++;
        }
        return asked;
    }

    public int fetched(int node, int what) {
        if (!isNode(node) || !nodes[node].fetch.isThere()) {
            return NONE;
        }
        Fetch fetch = nodes[node].fetch;
        switch (what) {
            case 0: return fetch.countOf(HAD);
            case 1: return fetch.countOf(ASKED);
            case 2: return fetch.broken ? 1 : 0;
            case 3: return fetch.sumOfContents();
            default: return NONE;
        }
    }

    public int cost(int node, int name, int face) {
        if (!isNode(node) || !names.has(name) || face < 0 || face >= FACES) {
            return NONE;
        }
        return nodes[node].routes.costOf(name, face);
    }

    public int waiting(int node, int what) {
        if (!isNode(node)) {
            return NONE;
        }
        if (what == 0) {
            return nodes[node].pending.count;
        }
        if (what == 1) {
            return nodes[node].store.count;
        }
        if (what < 2 || what > 5) {
            return NONE;
        }
        return nodes[node].faces[what - 2].onWire;
    }

    public int stored(int node, int name) {
        return isNode(node) ? nodes[node].store.placeOf(name) : NONE;
    }

    public int request(int request, int what) {
        if (request < 0 || request >= requestCount) {
            return NONE;
        }
        Request asked = requests[request];
        switch (what) {
            case 0: return asked.state;
            case 1: return asked.answer == null ? NONE : asked.answer.name;
            case 2: return asked.answer == null ? 0 : asked.answer.content;
            default: return NONE;
        }
    }

    private static int within(int number, int least, int most) {
        return Math.max(least, Math.min(most, number));
    }

    private static boolean isNode(int node) {
        return node >= 0 && node < NODES;
    }

    private Face linkFace(int node, int face) {
        return isNode(node) && face >= 0 && face < LINK_FACES ? nodes[node].faces[face] : null;
    }

    private static int segmentComponent(int segment) {
        return '0' + segment;
    }

    private static boolean isComponentLetter(char c) {
        return (c >= 'a' && c <= 'z') || (c >= '0' && c <= '9');
    }

    /** Leaves the text's components in typed; how many they are, or NONE if it is no name. */
    private int readText() {
        if (textLength == 0 || text[0] != '/') {
            return NONE;
        }
        if (textLength == 1) {
            return 0;
        }
        int length = 0;
        int letters = 0;
        int component = 0;
        for (int i = 1; i <= textLength; i++) {
            if (i == textLength || text[i] == '/') {
                if (letters == 0 || length == MOST_COMPONENTS) {
                    return NONE;
                }
                typed[length] = component;
                length++;
                letters = 0;
                component = 0;
            } else {
                if (letters == MOST_LETTERS || !isComponentLetter(text[i])) {
                    return NONE;
                }
                component = component * 128 + text[i];
                letters++;
            }
        }
        return length;
    }

    private int openRequest(Node node, int name, int flags, int hops) {
        if (requestCount >= MOST_REQUESTS) {
            return TOO_MANY_REQUESTS;
        }
        int number = requestCount;
        requests[number] = new Request(node.number, name, flags, now);
        requestCount++;
        interestComes(node, APP, Packet.interest(name, flags, FIRST_NONCE + number, hops));
        return number;
    }

    private void arrive(Node node, int face, Packet packet) {
        switch (packet.kind) {
            case INTEREST: interestComes(node, face, packet); break;
            case DATA: dataComes(node, face, packet); break;
            case NACK: nackComes(node, face, packet); break;
            default: node.hear(face, packet); break;
        }
    }

    private void interestComes(Node node, int face, Packet interest) {
        Entry entry = node.pending.find(interest.name, interest.flags);
        if (entry != null && entry.hasSeen(interest.nonce, face)) {
            sendNack(node, face, Packet.nack(interest.name, interest.flags, interest.nonce));
            return;
        }
        Packet data = node.store.serve(interest, names, now);
        if (data != null) {
            sendData(node, face, data, interest.name, interest.flags);
            return;
        }
        boolean isNew = entry == null;
        if (isNew) {
            entry = node.pending.make(interest.name, interest.flags);
        }
        if (entry == null) {
            sendNack(node, face, Packet.nack(interest.name, interest.flags, interest.nonce));
            return;
        }
        boolean askedBefore = entry.hasAsk(face);
        entry.putAsk(face, interest.nonce, now + life);
        entry.hops = interest.hops;
        if (isNew || askedBefore) {
            passOn(node, entry, interest.nonce);
        }
    }

    /**
     * Needs no hops of its own: an interest is passed on either right after it gave the entry an
     * ask, or for a nack, and both mean the hops of the latest interest, which the entry keeps.
     */
    private void passOn(Node node, Entry entry, int nonce) {
        int face = node.bestFace(entry, names);
        if (face == APP) {
            entry.putErrand(APP, nonce);
            Packet data = producedFor(node, entry);
            if (data != null) {
                dataComes(node, APP, data);
                return;
            }
            // The producer's nack comes in the same call; the app has its errand now, so the next
            // best face is never the app again.
            entry.nackErrand(APP);
            face = node.bestFace(entry, names);
        }
        if (face < 0 || face >= LINK_FACES || entry.hops <= 0) {
            failIfAllNacked(node, entry);
            return;
        }
        entry.putErrand(face, nonce);
        node.faces[face].put(Packet.interest(entry.name, entry.flags, nonce, entry.hops - 1));
    }

    private void failIfAllNacked(Node node, Entry entry) {
        if (!entry.allNacked()) {
            return;
        }
        for (int face = 0; face < FACES; face++) {
            if (entry.hasAsk(face)) {
                sendNack(node, face, Packet.nack(entry.name, entry.flags, entry.askNonce[face]));
            }
        }
        node.pending.takeOut(entry);
    }

    private Packet producedFor(Node node, Entry entry) {
        for (int name = 0; name < MOST_NAMES; name++) {
            if (published[name] != null && publisher[name] == node.number
                    && names.answers(name, entry.name, entry.flags)) {
                return published[name];
            }
        }
        return null;
    }

    private void dataComes(Node node, int face, Packet data) {
        boolean kept = false;
        int place = 0;
        int entries = node.pending.count;
        for (int step = 0; step < entries; step++) {
            Entry entry = node.pending.at(place);
            if (entry == null || !entry.hasErrand(face)
                    || !names.answers(data.name, entry.name, entry.flags)) {
                place++;
                continue;
            }
            if (!kept) {
                node.store.keep(data, now + data.period);
                kept = true;
            }
            for (int asker = 0; asker < FACES; asker++) {
                if (entry.hasAsk(asker)) {
                    sendData(node, asker, data, entry.name, entry.flags);
                }
            }
            node.pending.takeOut(entry);
        }
    }

    private void nackComes(Node node, int face, Packet nack) {
        Entry entry = node.pending.find(nack.name, nack.flags);
        if (entry != null && entry.awaits(nack.nonce, face)) {
            entry.nackErrand(face);
            passOn(node, entry, nack.nonce);
        }
    }

    /** The name and flags are those that were asked for: the app's requests are found by them. */
    private void sendData(Node node, int face, Packet data, int name, int flags) {
        if (face < LINK_FACES) {
            node.faces[face].put(data);
        } else {
            endRequests(node.number, name, flags, data);
        }
    }

    private void sendNack(Node node, int face, Packet nack) {
        if (face < LINK_FACES) {
            node.faces[face].put(nack);
        } else {
            endRequests(node.number, nack.name, nack.flags, null);
        }
    }

    /** Without an answer they are refused. */
    private void endRequests(int node, int name, int flags, Packet answer) {
        for (int i = 0; i < requestCount; i++) {
            Request request = requests[i];
            if (request.state == WAITS && request.node == node
                    && request.name == name && request.flags == flags) {
                request.state = answer == null ? REFUSED : ANSWERED;
                request.answer = answer;
            }
        }
    }

    /** A name is held as its longest shorter name and one component, which is packed in an int. */
    private static final class Names {
        private final int[] shorter = new int[MOST_NAMES];
        private final int[] component = new int[MOST_NAMES];
        private final int[] length = new int[MOST_NAMES];
        private int count;

        Names() {
            shorter[ROOT] = NONE;
            count = 1;
        }

        boolean has(int name) {
            return name >= 0 && name < count;
        }

        boolean hasRoomFor(int more) {
            return count + more <= MOST_NAMES;
        }

        int shorterOf(int name) {
            return has(name) ? shorter[name] : NONE;
        }

        int lengthOf(int name) {
            return has(name) ? length[name] : 0;
        }

        int find(int beginning, int last) {
            for (int name = 1; name < count; name++) {
                if (shorter[name] == beginning && component[name] == last) {
                    return name;
                }
            }
            return NONE;
        }

        int findOrMake(int beginning, int last) {
            int found = find(beginning, last);
            if (found != NONE || count >= MOST_NAMES) {
                return found;
            }
            int made = count;
            shorter[made] = beginning;
            component[made] = last;
            length[made] = lengthOf(beginning) + 1;
            count++;
            return made;
        }

        /** Whether a data of that name answers what was asked for by a name and flags. */
        boolean answers(int data, int asked, int flags) {
            if (data == asked) {
                return true;
            }
            return (flags & PREFIXED) != 0 && isPrefix(asked, data);
        }

        private boolean isPrefix(int prefix, int name) {
            int at = name;
            for (int step = 0; step <= MOST_COMPONENTS && at >= 0; step++) {
                if (at == prefix) {
                    return true;
                }
                at = shorter[at];
            }
            return false;
        }
    }

    /** Never changed once it is made, so that one object can be on several wires and in stores. */
    private static final class Packet {
        private final int kind;
        private final int name;
        private int flags;
        private int nonce;
        private int hops;
        private int content;
        private int period;
        private int origin;
        private int serial;
        private int cost;

        private Packet(int kind, int name) {
            this.kind = kind;
            this.name = name;
        }

        static Packet interest(int name, int flags, int nonce, int hops) {
            Packet made = new Packet(INTEREST, name);
            made.flags = flags;
            made.nonce = nonce;
            made.hops = hops;
            return made;
        }

        static Packet data(int name, int content, int period) {
            Packet made = new Packet(DATA, name);
            made.content = content;
            made.period = period;
            return made;
        }

        static Packet nack(int name, int flags, int nonce) {
            Packet made = new Packet(NACK, name);
            made.flags = flags;
            made.nonce = nonce;
            return made;
        }

        static Packet notice(int origin, int name, int serial, int cost) {
            Packet made = new Packet(NOTICE, name);
            made.origin = origin;
            made.serial = serial;
            made.cost = cost;
            return made;
        }
    }

    /** A face 0 .. 3 with its side of a link and the wire of what was sent out there. */
    private static final class Face {
        private int otherNode = NONE;
        private int otherFace = NONE;
        private boolean up;
        private final Packet[] wire = new Packet[MOST_ON_WIRE];
        private int onWire;

        boolean isLinked() {
            return otherNode != NONE;
        }

        void join(int node, int face) {
            otherNode = node;
            otherFace = face;
            up = true;
        }

        void set(boolean nowUp) {
            up = nowUp;
            if (!nowUp) {
                onWire = 0;
            }
        }

        /** False if the packet is lost. */
        boolean put(Packet packet) {
            if (!up || onWire >= MOST_ON_WIRE) {
                return false;
            }
            wire[onWire] = packet;
            onWire++;
            return true;
        }

        Packet first() {
            return onWire > 0 ? wire[0] : null;
        }

        void dropFirst() {
            if (onWire > 0) {
                onWire--;
                for (int i = 0; i < onWire; i++) {
                    wire[i] = wire[i + 1];
                }
            }
        }
    }

    /** What a node heard of one origin's name; serial 0 stands for nothing heard yet. */
    private static final class Route {
        private final int origin;
        private final int name;
        private int serial;
        private final int[] costs = new int[FACES];

        Route(int origin, int name) {
            this.origin = origin;
            this.name = name;
            for (int face = 0; face < FACES; face++) {
                costs[face] = NONE;
            }
        }

        void begin(int newSerial, int face, int cost) {
            serial = newSerial;
            for (int i = 0; i < FACES; i++) {
                costs[i] = i == face && cost != UNREACHABLE ? cost : NONE;
            }
        }

        /** Takes a face's cost if it is a better one; whether it is less than all there were. */
        boolean improve(int face, int cost) {
            if (cost == UNREACHABLE || (costs[face] != NONE && costs[face] <= cost)) {
                return false;
            }
            int before = least();
            costs[face] = cost;
            return before == NONE || cost < before;
        }

        int least() {
            int least = NONE;
            for (int face = 0; face < FACES; face++) {
                if (costs[face] != NONE && (least == NONE || costs[face] < least)) {
                    least = costs[face];
                }
            }
            return least;
        }
    }

    private static final class Routes {
        private final Route[] rows = new Route[NODES * MOST_OWN_ROUTES];
        private int count;

        Route find(int origin, int name) {
            for (int i = 0; i < count; i++) {
                if (rows[i].origin == origin && rows[i].name == name) {
                    return rows[i];
                }
            }
            return null;
        }

        /** Null if the origin has as many as it may have. */
        Route make(int origin, int name) {
            if (countOf(origin) >= MOST_OWN_ROUTES || count >= rows.length) {
                return null;
            }
            Route made = new Route(origin, name);
            rows[count] = made;
            count++;
            return made;
        }

        private int countOf(int origin) {
            int found = 0;
            for (int i = 0; i < count; i++) {
                if (rows[i].origin == origin) {
                    found++;
                }
            }
            return found;
        }

        int costOf(int name, int face) {
            int least = NONE;
            for (int i = 0; i < count; i++) {
                int cost = rows[i].name == name ? rows[i].costs[face] : NONE;
                if (cost != NONE && (least == NONE || cost < least)) {
                    least = cost;
                }
            }
            return least;
        }

        int longestPrefix(int name, Names names) {
            int prefix = name;
            for (int step = 0; step <= MOST_COMPONENTS && prefix != NONE; step++) {
                for (int i = 0; i < count; i++) {
                    if (rows[i].name == prefix && rows[i].least() != NONE) {
                        return prefix;
                    }
                }
                prefix = names.shorterOf(prefix);
            }
            return NONE;
        }
    }

    /** The datas in the order in which they were used, the one used longest ago first. */
    private static final class Store {
        private final Packet[] datas;
        private final int[] until;
        private int count;

        Store(int room) {
            datas = new Packet[room];
            until = new int[room];
        }

        int placeOf(int name) {
            for (int i = 0; i < count; i++) {
                if (datas[i].name == name) {
                    return i;
                }
            }
            return NONE;
        }

        Packet serve(Packet interest, Names names, int now) {
            boolean mustBeFresh = (interest.flags & FRESHENED) != 0;
            int best = NONE;
            for (int i = 0; i < count; i++) {
                boolean fits = names.answers(datas[i].name, interest.name, interest.flags)
                        && (!mustBeFresh || until[i] > now);
                if (fits && (best == NONE || datas[i].name < datas[best].name)) {
                    best = i;
                }
            }
            if (best == NONE) {
                return null;
            }
            Packet data = datas[best];
            int freshUntil = until[best];
            takeOut(best);
            putLast(data, freshUntil);
            return data;
        }

        void keep(Packet data, int freshUntil) {
            int old = placeOf(data.name);
            if (old != NONE) {
                takeOut(old);
            }
            if (count > 0 && count == datas.length) {
                takeOut(0);
            }
            putLast(data, freshUntil);
        }

        private void putLast(Packet data, int freshUntil) {
            if (count < datas.length) {
                datas[count] = data;
                until[count] = freshUntil;
                count++;
            }
        }

        private void takeOut(int place) {
            count--;
            for (int i = place; i < count; i++) {
                datas[i] = datas[i + 1];
                until[i] = until[i + 1];
            }
        }
    }

    /** Nonces are never NONE, so a nonce of NONE stands for no ask, or no errand, of a face. */
    private static final class Entry {
        private int name;
        private int flags;
        private int hops;
        private final int[] askNonce = new int[FACES];
        private final int[] askEnd = new int[FACES];
        private final int[] errandNonce = new int[FACES];
        private final boolean[] nacked = new boolean[FACES];

        void begin(int newName, int newFlags) {
            name = newName;
            flags = newFlags;
            for (int face = 0; face < FACES; face++) {
                askNonce[face] = NONE;
                errandNonce[face] = NONE;
            }
        }

        boolean hasAsk(int face) {
            return askNonce[face] != NONE;
        }

        boolean hasErrand(int face) {
            return errandNonce[face] != NONE;
        }

        void putAsk(int face, int nonce, int end) {
            askNonce[face] = nonce;
            askEnd[face] = end;
        }

        void putErrand(int face, int nonce) {
            errandNonce[face] = nonce;
            nacked[face] = false;
        }

        void nackErrand(int face) {
            nacked[face] = true;
        }

        boolean awaits(int nonce, int face) {
            return errandNonce[face] == nonce && !nacked[face];
        }

        /** Whether an interest that comes at a face with this nonce has gone round in a loop. */
        boolean hasSeen(int nonce, int face) {
            for (int i = 0; i < FACES; i++) {
                if (errandNonce[i] == nonce || (i != face && askNonce[i] == nonce)) {
                    return true;
                }
            }
            return false;
        }

        boolean allNacked() {
            for (int face = 0; face < FACES; face++) {
                if (hasErrand(face) && !nacked[face]) {
                    return false;
                }
            }
            return true;
        }

        /** Whether asks are left. */
        boolean dropAsksEnded(int now) {
            boolean left = false;
            for (int face = 0; face < FACES; face++) {
                if (hasAsk(face) && askEnd[face] <= now) {
                    askNonce[face] = NONE;
                }
                left = left || hasAsk(face);
            }
            return left;
        }
    }

    /**
     * The entries in the order in which they were made; behind the first count ones are those that
     * can be used again.
     */
    private static final class Pending {
        private final Entry[] entries;
        private int count;

        Pending(int room) {
            entries = new Entry[room];
            for (int i = 0; i < room; i++) {
                entries[i] = new Entry();
            }
        }

        Entry at(int place) {
            return place >= 0 && place < count ? entries[place] : null;
        }

        Entry find(int name, int flags) {
            for (int i = 0; i < count; i++) {
                if (entries[i].name == name && entries[i].flags == flags) {
                    return entries[i];
                }
            }
            return null;
        }

        /** Null if there is no room. */
        Entry make(int name, int flags) {
            if (count >= entries.length) {
                return null;
            }
            Entry made = entries[count];
            made.begin(name, flags);
            count++;
            return made;
        }

        void takeOut(Entry entry) {
            int left = 0;
            for (int i = 0; i < count; i++) {
                if (entries[i] != entry) {
                    entries[left] = entries[i];
                    left++;
                }
            }
            if (left < count) {
                count = left;
                entries[count] = entry;
            }
        }

        /** How many entries are gone by it. */
        int dropEnded(int now) {
            int before = count;
            for (int i = before - 1; i >= 0; i--) {
                if (!entries[i].dropAsksEnded(now)) {
                    takeOut(entries[i]);
                }
            }
            return before - count;
        }
    }

    private static final class Request {
        private final int node;
        private final int name;
        private final int flags;
        private final int since;
        private int state = WAITS;
        private Packet answer;

        Request(int node, int name, int flags, int since) {
            this.node = node;
            this.name = name;
            this.flags = flags;
            this.since = since;
        }
    }

    /** A node has one, used again for each fetch of the node; there is none while count is 0. */
    private static final class Fetch {
        private int count;
        private int window;
        private boolean broken;
        private final int[] segment = new int[MOST_SEGMENTS];
        private final int[] state = new int[MOST_SEGMENTS];
        private final int[] tries = new int[MOST_SEGMENTS];
        private final Request[] askedBy = new Request[MOST_SEGMENTS];

        boolean isThere() {
            return count > 0;
        }

        void begin(int newCount, int newWindow) {
            count = newCount;
            window = newWindow;
            broken = false;
            for (int i = 0; i < MOST_SEGMENTS; i++) {
                state[i] = WANTED;
                tries[i] = 0;
                askedBy[i] = null;
            }
        }

        int countOf(int wantedState) {
            int found = 0;
            for (int i = 0; i < count; i++) {
                if (state[i] == wantedState) {
                    found++;
                }
            }
            return found;
        }

        void markAsked(int i, Request request) {
            state[i] = ASKED;
            tries[i]++;
            askedBy[i] = request;
        }

        /** Looks at all segments also when one breaks the fetch: later ones may be had by now. */
        void settle() {
            for (int i = 0; i < count; i++) {
                Request request = askedBy[i];
                if (state[i] != ASKED || request == null || request.state == WAITS) {
                    continue;
                }
                if (request.state == ANSWERED) {
                    state[i] = HAD;
                } else {
                    state[i] = WANTED;
                    broken = broken || tries[i] >= MOST_TRIES;
                }
            }
        }

        int sumOfContents() {
            int sum = 0;
            for (int i = 0; i < count; i++) {
                Request request = askedBy[i];
                if (state[i] == HAD && request != null && request.answer != null) {
                    sum += request.answer.content;
                }
            }
            return sum;
        }
    }

    private static final class Node {
        private final int number;
        private final Face[] faces = new Face[LINK_FACES];
        private final Routes routes = new Routes();
        private final Store store;
        private final Pending pending;
        private final Fetch fetch = new Fetch();

        Node(int number, int storeRoom, int pendingRoom) {
            this.number = number;
            for (int face = 0; face < LINK_FACES; face++) {
                faces[face] = new Face();
            }
            store = new Store(storeRoom);
            pending = new Pending(pendingRoom);
        }

        void spread(Packet notice, int exceptFace) {
            for (int face = 0; face < LINK_FACES; face++) {
                if (face != exceptFace) {
                    faces[face].put(notice);
                }
            }
        }

        void hear(int face, Packet notice) {
            if (notice.origin == number) {
                return;
            }
            Route route = routes.find(notice.origin, notice.name);
            if (route == null) {
                route = routes.make(notice.origin, notice.name);
            }
            if (route == null || route.serial > notice.serial) {
                return;
            }
            boolean tell = true;
            if (route.serial < notice.serial) {
                route.begin(notice.serial, face, notice.cost);
            } else {
                tell = route.improve(face, notice.cost);
            }
            if (tell) {
                int further = notice.cost == UNREACHABLE ? UNREACHABLE : notice.cost + 1;
                spread(Packet.notice(notice.origin, notice.name, notice.serial, further), face);
            }
        }

        /** The one face that an entry's interest may go on along next, or NONE. */
        int bestFace(Entry entry, Names names) {
            int prefix = routes.longestPrefix(entry.name, names);
            int best = NONE;
            int bestCost = NONE;
            for (int face = 0; face < FACES && prefix != NONE; face++) {
                int cost = routes.costOf(prefix, face);
                if (cost != NONE && isFree(entry, face) && (best == NONE || cost < bestCost)) {
                    best = face;
                    bestCost = cost;
                }
            }
            return best;
        }

        private boolean isFree(Entry entry, int face) {
            if (entry.hasErrand(face)) {
                return false;
            }
            return face == APP || (!entry.hasAsk(face) && faces[face].up);
        }
    }
}
