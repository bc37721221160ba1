import java.util.Arrays;

/** Files that several servers keep alike as well as they can; clients read, write, go on alone and hand in later. */
public final class ReplicaFiles {
    public static final int NO = -1;
    public static final long NONE = -(1L << 41), MISS = -(1L << 41) - 1L, GONE = -(1L << 41) - 2L, APART = -(1L << 41) - 3L, CONFLICT = -(1L << 41) - 4L, FULL = -(1L << 41) - 5L, NO_ROOM = -(1L << 41) - 6L, WRONG = -(1L << 41) - 7L, IS_ALONE = -(1L << 41) - 8L;

    private static final int CLIENTS = 4;
    private static final int MOST_SERVERS = 4;
    private static final int OBJECTS = 48;
    private static final int ROOT = 0;
    private static final int NAMES = 16;
    private static final int MOST_SIZE = 6;
    private static final int MOST_VERSIONS = 6;
    private static final int MOST_RECORDS = 12;
    private static final int MOST_PRIORITY = 9;
    private static final int CACHE_WEIGHT = 24;
    private static final int DIRECTORY_WEIGHT = 2;

    /** What a tree knows of an object's entry in its directory. */
    private static final int UNKNOWN = 0;
    private static final int IS_THERE = 1;
    private static final int IS_GONE = 2;

    /** The kinds of records, as record() tells them. */
    private static final int WRITE = 0;
    private static final int MAKE = 1;
    private static final int REMOVE = 2;

    /** What told() counts, by its argument. */
    private static final int TOLD_MADE = 0;
    private static final int TOLD_ACTS = 1;
    private static final int TOLD_LOST = 2;
    private static final int TOLD_REFUSED = 3;
    private static final int TOLD_PHASES_LOST = 4;
    private static final int TOLD_CAME = 5;
    private static final int TOLD_WENT = 6;
    private static final int TOLD_ALIKE = 7;

    /** An object was got, or may be: no stop. */
    private static final long GOT = 0L;
    /** A priority above all: everything may go to make room. */
    private static final int ANY_PRIORITY = MOST_PRIORITY + 1;

    private final int serverCount;
    private final Catalog catalog;
    private final Net net;
    private final Server[] servers;
    private final Client[] clients;
    private final int[] tallies;
    private final Replicas replicas;
    private final HandingIn handingIn;
    private final Meeting meeting;

    public ReplicaFiles(int servers) {
        serverCount = Math.max(1, Math.min(MOST_SERVERS, servers));
        int width = serverCount + CLIENTS;
        catalog = new Catalog();
        net = new Net(serverCount);
        tallies = new int[TOLD_ALIKE + 1];
        this.servers = new Server[serverCount];
        for (int s = 0; s < serverCount; s++) {
            this.servers[s] = new Server(catalog, width);
        }
        clients = new Client[CLIENTS];
        for (int c = 0; c < CLIENTS; c++) {
            clients[c] = new Client(c, catalog, width, tallies);
        }
        replicas = new Replicas(catalog, this.servers, clients, tallies);
        handingIn = new HandingIn(replicas, width);
        meeting = new Meeting(replicas, width);
    }

    public boolean link(int server, int other, boolean up) throws IndexOutOfBoundsException {
        checkServer(server);
        boolean isClient = other >= MOST_SERVERS && other < MOST_SERVERS + CLIENTS;
        if (!isClient) {
            checkServer(other);
        }
        if (other == server) {
            throw new IndexOutOfBoundsException("a server has no link to itself");
        }
        boolean changed = net.turnLink(server, other, up);
        if (isClient && !up) {
            clients[other - MOST_SERVERS].forgetPromisesOf(server);
        }
        return changed;
    }

    public boolean server(int server, boolean up) throws IndexOutOfBoundsException {
        checkServer(server);
        if (!up) {
            for (int c = 0; c < CLIENTS; c++) {
                clients[c].forgetPromisesOf(server);
            }
        }
        return net.turnServer(server, up);
    }

    public boolean lose(int server) throws IndexOutOfBoundsException {
        checkServer(server);
        boolean none = !servers[server].losesPhase;
        servers[server].losesPhase = true;
        return none;
    }

    public int priority(int client, int object, int p) throws IndexOutOfBoundsException, IllegalArgumentException {
        checkClient(client);
        checkObject(object);
        checkArgument(p, MOST_PRIORITY);
        int before = clients[client].priority[object];
        clients[client].priority[object] = p;
        return before;
    }

    public long find(int client, int directory, int name) throws IndexOutOfBoundsException, IllegalArgumentException {
        checkClient(client);
        checkObject(directory);
        checkArgument(name, NAMES - 1);
        Client c = startCall(client);
        long stop = obtainKind(c, directory, true);
        return stop != GOT ? stop : c.tree.leastNamed(directory, name);
    }

    public long read(int client, int file) throws IndexOutOfBoundsException {
        checkClient(client);
        checkObject(file);
        Client c = startCall(client);
        long stop = obtainKind(c, file, false);
        return stop != GOT ? stop : c.tree.value[file];
    }

    public long write(int client, int file, int value, int size) throws IndexOutOfBoundsException, IllegalArgumentException {
        checkClient(client);
        checkObject(file);
        checkArgument(size, MOST_SIZE);
        Client c = startCall(client);
        long stop = obtainKind(c, file, false);
        if (stop != GOT) {
            return stop;
        }
        return isAlone(c) ? c.writeAlone(file, value, size) : writeNear(c, file, value, size);
    }

    public long make(int client, int directory, int name, boolean isDirectory) throws IndexOutOfBoundsException, IllegalArgumentException {
        checkClient(client);
        checkObject(directory);
        checkArgument(name, NAMES - 1);
        Client c = startCall(client);
        long stop = obtainKind(c, directory, true);
        if (stop != GOT) {
            return stop;
        }
        if (catalog.isFull()) {
            return FULL;
        }
        return isAlone(c) ? c.makeAlone(directory, name, isDirectory) : makeNear(c, directory, name, isDirectory);
    }

    public long remove(int client, int directory, int object) throws IndexOutOfBoundsException {
        checkClient(client);
        checkObject(directory);
        checkObject(object);
        Client c = startCall(client);
        long stop = obtainKind(c, directory, true);
        if (stop != GOT) {
            return stop;
        }
        if (!c.tree.isThereIn(directory, object)) {
            return NONE;
        }
        stop = obtain(c, object, ANY_PRIORITY);
        if (stop != GOT) {
            return stop;
        }
        if (c.tree.thereIn(object) > 0) {
            return FULL;
        }
        return isAlone(c) ? c.removeAlone(directory, object) : removeNear(c, directory, object);
    }

    public long handIn(int client) throws IndexOutOfBoundsException {
        checkClient(client);
        int near = net.nearClient(client);
        if (near == 0) {
            return IS_ALONE;
        }
        Client c = clients[client];
        int records = c.log.length;
        handingIn.handInAll(c, near);
        return records;
    }

    public long walk(int client) throws IndexOutOfBoundsException {
        checkClient(client);
        Client c = startCall(client);
        if (isAlone(c)) {
            return IS_ALONE;
        }
        for (int p = MOST_PRIORITY; p > 0; p--) {
            for (int o = ROOT; o <= catalog.made; o++) {
                if (c.priority[o] == p) {
                    obtain(c, o, p);
                }
            }
        }
        int good = 0;
        int near = net.nearClient(client);
        for (int o = ROOT; o <= catalog.made; o++) {
            if (c.priority[o] > 0 && c.isGood(o, near)) {
                good++;
            }
        }
        return good;
    }

    public long meet(int server) throws IndexOutOfBoundsException {
        checkServer(server);
        if (!net.isUp(server)) {
            return NONE;
        }
        return meeting.hold(net.nearServer(server));
    }

    public long repair(int client, int file, int i) throws IndexOutOfBoundsException {
        checkClient(client);
        checkObject(file);
        long stop = stopOfKind(file, false);
        if (stop != GOT) {
            return stop;
        }
        if (isAlone(clients[client])) {
            return IS_ALONE;
        }
        int near = net.nearClient(client);
        int s = replicas.leastInConflict(near, file);
        if (s == NO || !servers[s].versions[file].has(i)) {
            return NONE;
        }
        return replicas.settle(near, file, s, i);
    }

    public long copy(int server, int object, int what) throws IndexOutOfBoundsException {
        checkServer(server);
        checkObject(object);
        checkWhat(what, 4);
        Tree tree = servers[server].tree;
        if (!tree.held[object]) {
            return NONE;
        }
        switch (what) {
            case 0: return tree.value[object];
            case 1: return tree.size[object];
            case 2: return servers[server].versions[object].length;
            case 3: return tree.entriesIn(object);
            default: return tree.thereIn(object);
        }
    }

    public long vector(int server, int object, int version, int k) throws IndexOutOfBoundsException {
        checkServer(server);
        checkObject(object);
        checkWhat(k, serverCount + CLIENTS - 1);
        Server s = servers[server];
        if (version == NO) {
            return s.tree.held[object] ? s.tree.counts[object][k] : NONE;
        }
        Versions versions = s.versions[object];
        return versions.has(version) ? versions.counts[version][k] : NONE;
    }

    public long version(int server, int object, int version, int what) throws IndexOutOfBoundsException {
        checkServer(server);
        checkObject(object);
        checkWhat(what, 1);
        Versions versions = servers[server].versions[object];
        if (!versions.has(version)) {
            return NONE;
        }
        return what == 0 ? versions.value[version] : versions.size[version];
    }

    public long entry(int server, int directory, int i, int what) throws IndexOutOfBoundsException {
        checkServer(server);
        checkObject(directory);
        checkWhat(what, 2);
        Tree tree = servers[server].tree;
        int object = tree.entryAt(directory, i);
        if (object == NO) {
            return NONE;
        }
        switch (what) {
            case 0: return object;
            case 1: return catalog.name[object];
            default: return tree.state[object] == IS_GONE ? 1L : 0L;
        }
    }

    public long cached(int client, int object, int what) throws IndexOutOfBoundsException {
        checkClient(client);
        checkObject(object);
        checkWhat(what, 4);
        Client c = clients[client];
        if (!c.tree.held[object]) {
            return NONE;
        }
        switch (what) {
            case 0: return catalog.isDirectory[object] ? c.tree.thereIn(object) : c.tree.value[object];
            case 1: return c.tree.size[object];
            case 2: return c.promised[object];
            case 3: return c.dirty[object] ? 1L : 0L;
            default: return c.isGood(object, net.nearClient(client)) ? 1L : 0L;
        }
    }

    public long record(int client, int i, int what) throws IndexOutOfBoundsException {
        checkClient(client);
        checkWhat(what, 2);
        Log log = clients[client].log;
        if (i < 0 || i >= log.length) {
            return NONE;
        }
        switch (what) {
            case 0: return log.kind[i];
            case 1: return log.object[i];
            default: return log.directory[i];
        }
    }

    public int told(int what) throws IndexOutOfBoundsException {
        checkWhat(what, TOLD_ALIKE);
        switch (what) {
            case TOLD_MADE: return catalog.made;
            case TOLD_ALIKE: return replicas.allAlike(net.up) ? 1 : 0;
            default: return tallies[what];
        }
    }

    private void checkServer(int server) {
        if (server < 0 || server >= serverCount) {
            throw new IndexOutOfBoundsException("no such server");
        }
    }

    private static void checkClient(int client) {
        if (client < 0 || client >= CLIENTS) {
            throw new IndexOutOfBoundsException("no such client");
        }
    }

    private static void checkObject(int object) {
        if (object < 0 || object >= OBJECTS) {
            throw new IndexOutOfBoundsException("no such object");
        }
    }

    private static void checkWhat(int what, int most) {
        if (what < 0 || what > most) {
            throw new IndexOutOfBoundsException("another what");
        }
    }

    private static void checkArgument(int argument, int most) {
        if (argument < 0 || argument > most) {
            throw new IllegalArgumentException("an argument is out of its range");
        }
    }

    private Client startCall(int client) {
        clients[client].startCall();
        return clients[client];
    }

    private boolean isAlone(Client c) {
        return c.log.length > 0 || net.nearClient(c.number) == 0;
    }

    private long stopOfKind(int object, boolean wantsDirectory) {
        if (!catalog.isMade(object)) {
            return NONE;
        }
        return catalog.isDirectory[object] == wantsDirectory ? GOT : WRONG;
    }

    private long obtainKind(Client c, int object, boolean wantsDirectory) {
        long stop = stopOfKind(object, wantsDirectory);
        return stop != GOT ? stop : obtain(c, object, ANY_PRIORITY);
    }

    /**
     * Gets an object into the client's cache; room is made by what has a priority below the one told.
     * A client that is not alone has nothing dirty, and but for walk() a call needs 9 of 24 at most:
     * so what it got is always in its cache.
     */
    private long obtain(Client c, int object, int below) {
        int near = net.nearClient(c.number);
        if (isAlone(c) || c.isGood(object, near)) {
            return c.useOwn(object);
        }
        if (replicas.holders(near, object) == 0) {
            c.drop(object);
            return GONE;
        }
        int s = replicas.leastGreatest(near, object);
        if (s == NO) {
            return APART;
        }
        if (servers[s].isInConflict(object)) {
            return CONFLICT;
        }
        c.use(object);
        int promised = replicas.holdersOf(near, object, servers[s].tree.counts[object]);
        c.takeIn(servers[s].tree, object, promised, below);
        return GOT;
    }

    private long writeNear(Client c, int file, int value, int size) {
        int set = replicas.holdersOf(net.nearClient(c.number), file, c.tree.counts[file]);
        replicas.writeAt(set, file, value, size);
        finishNear(c, set, file);
        c.changeFile(file, value, size);
        return Integer.bitCount(set);
    }

    private long makeNear(Client c, int directory, int name, boolean isDirectory) {
        int set = replicas.holdersOf(net.nearClient(c.number), directory, c.tree.counts[directory]);
        int object = catalog.enter(directory, name, isDirectory);
        replicas.makeAt(set, object);
        finishNear(c, set, directory);
        c.takeInMade(directory, object, set);
        return object;
    }

    private long removeNear(Client c, int directory, int object) {
        int set = replicas.holdersOf(net.nearClient(c.number), directory, c.tree.counts[directory]);
        replicas.removeAt(set, object, c.tree.counts[object]);
        finishNear(c, set, directory);
        replicas.endPromisesToOthers(c, set, object);
        c.dropRemoved(directory, object);
        return Integer.bitCount(set);
    }

    private void finishNear(Client c, int set, int object) {
        int lost = replicas.countAct(set, object);
        replicas.endPromisesToOthers(c, set, object);
        if (c.tree.held[object]) {
            replicas.copyMarks(set, object, c.tree.counts[object]);
            c.promised[object] = set & ~lost;
        }
    }

    private static boolean isIn(int set, int server) {
        return (set >> server & 1) != 0;
    }

    private static boolean isAtMost(int[] u, int[] v) {
        for (int k = 0; k < u.length && k < v.length; k++) {
            if (u[k] > v[k]) {
                return false;
            }
        }
        return true;
    }

    private static boolean isSame(int[] u, int[] v) {
        for (int k = 0; k < u.length && k < v.length; k++) {
            if (u[k] != v[k]) {
                return false;
            }
        }
        return true;
    }

    private static void assign(int[] to, int[] from) {
        for (int k = 0; k < to.length && k < from.length; k++) {
            to[k] = from[k];
        }
    }

    private static void raise(int[] to, int[] from) {
        for (int k = 0; k < to.length && k < from.length; k++) {
            to[k] = Math.max(to[k], from[k]);
        }
    }

    /** The objects that were made, and what never changes of them: an object has one directory and one name for ever. */
    private static final class Catalog {
        private final int[] parent = new int[OBJECTS];
        private final int[] name = new int[OBJECTS];
        private final boolean[] isDirectory = new boolean[OBJECTS];
        private int made;

        Catalog() {
            isDirectory[ROOT] = true;
            parent[ROOT] = NO;
        }

        boolean isMade(int object) {
            return object <= made;
        }

        boolean isFull() {
            return made >= OBJECTS - 1;
        }

        int enter(int directory, int objectName, boolean directoryWanted) {
            if (isFull()) {
                return NO;
            }
            made++;
            parent[made] = directory;
            name[made] = objectName;
            isDirectory[made] = directoryWanted;
            return made;
        }
    }

    /** Which servers and links are up; sets of servers are bits. */
    private static final class Net {
        private final int serverCount;
        /** For each server the bits of those to whom its link is down: servers 0 .. 3, clients 4 .. 7. */
        private final int[] broken;
        private int up;

        Net(int serverCount) {
            this.serverCount = serverCount;
            broken = new int[serverCount];
            up = (1 << serverCount) - 1;
        }

        boolean isUp(int server) {
            return isIn(up, server);
        }

        boolean turnServer(int server, boolean toUp) {
            boolean changed = isUp(server) != toUp;
            up = toUp ? up | 1 << server : up & ~(1 << server);
            return changed;
        }

        boolean turnLink(int server, int other, boolean toUp) {
            boolean changed = isIn(broken[server], other) == toUp;
            turnEnd(server, other, toUp);
            if (other < serverCount) {
                turnEnd(other, server, toUp);
            }
            return changed;
        }

        private void turnEnd(int server, int other, boolean toUp) {
            broken[server] = toUp ? broken[server] & ~(1 << other) : broken[server] | 1 << other;
        }

        int nearServer(int server) {
            return isUp(server) ? up & ~broken[server] : 0;
        }

        int nearClient(int client) {
            int near = 0;
            for (int s = 0; s < serverCount; s++) {
                if (isUp(s) && !isIn(broken[s], MOST_SERVERS + client)) {
                    near |= 1 << s;
                }
            }
            return near;
        }
    }

    /** Copies of objects as one server or one cache has them. An entry stands with its object, as that has one directory. */
    private static final class Tree {
        private final Catalog catalog;
        private final boolean[] held = new boolean[OBJECTS];
        private final int[] value = new int[OBJECTS];
        private final int[] size = new int[OBJECTS];
        private final int[][] counts;
        private final int[] state = new int[OBJECTS];
        /** All 0 but for entries that are gone. */
        private final int[][] goneCounts;

        Tree(Catalog catalog, int width) {
            this.catalog = catalog;
            counts = new int[OBJECTS][width];
            goneCounts = new int[OBJECTS][width];
        }

        void createCopy(int object) {
            held[object] = true;
            setFile(object, 0, 0);
            Arrays.fill(counts[object], 0);
        }

        void setFile(int file, int newValue, int newSize) {
            value[file] = newValue;
            size[file] = newSize;
        }

        void setThere(int object) {
            state[object] = IS_THERE;
            Arrays.fill(goneCounts[object], 0);
        }

        void setGone(int object, int[] vector) {
            state[object] = IS_GONE;
            assign(goneCounts[object], vector);
        }

        void forgetEntry(int object) {
            state[object] = UNKNOWN;
            Arrays.fill(goneCounts[object], 0);
        }

        void drop(int object) {
            held[object] = false;
            setFile(object, 0, 0);
            Arrays.fill(counts[object], 0);
            for (int o = object + 1; o <= catalog.made; o++) {
                if (catalog.parent[o] == object) {
                    state[o] = UNKNOWN;
                    Arrays.fill(goneCounts[o], 0);
                }
            }
        }

        void takeFrom(Tree from, int object) {
            held[object] = true;
            setFile(object, from.value[object], from.size[object]);
            assign(counts[object], from.counts[object]);
            for (int o = object + 1; o <= catalog.made; o++) {
                if (catalog.parent[o] == object) {
                    state[o] = from.state[o];
                    assign(goneCounts[o], from.goneCounts[o]);
                }
            }
        }

        boolean isThereIn(int directory, int object) {
            return catalog.isMade(object) && catalog.parent[object] == directory && state[object] == IS_THERE;
        }

        private boolean isEntryOf(int directory, int object) {
            return catalog.parent[object] == directory && state[object] != UNKNOWN;
        }

        int entriesIn(int directory) {
            int entries = 0;
            for (int o = directory + 1; o <= catalog.made; o++) {
                if (isEntryOf(directory, o)) {
                    entries++;
                }
            }
            return entries;
        }

        int thereIn(int directory) {
            int there = 0;
            for (int o = directory + 1; o <= catalog.made; o++) {
                if (isThereIn(directory, o)) {
                    there++;
                }
            }
            return there;
        }

        int entryAt(int directory, int i) {
            int before = 0;
            for (int o = directory + 1; o <= catalog.made; o++) {
                if (isEntryOf(directory, o)) {
                    if (before == i) {
                        return o;
                    }
                    before++;
                }
            }
            return NO;
        }

        long leastNamed(int directory, int name) {
            for (int o = directory + 1; o <= catalog.made; o++) {
                if (isThereIn(directory, o) && catalog.name[o] == name) {
                    return o;
                }
            }
            return NONE;
        }

        boolean holdsSomethingIn(int directory) {
            for (int o = directory + 1; o <= catalog.made; o++) {
                if (held[o] && catalog.parent[o] == directory) {
                    return true;
                }
            }
            return false;
        }

        boolean isCopyLike(Tree other, int object) {
            if (held[object] != other.held[object] || value[object] != other.value[object]
                    || size[object] != other.size[object] || !isSame(counts[object], other.counts[object])) {
                return false;
            }
            for (int o = object + 1; o <= catalog.made; o++) {
                if (catalog.parent[o] == object
                        && (state[o] != other.state[o] || !isSame(goneCounts[o], other.goneCounts[o]))) {
                    return false;
                }
            }
            return true;
        }
    }

    /** A short row of versions of a file: value, size and vector of each. */
    private static final class Versions {
        private final int[] value;
        private final int[] size;
        private final int[][] counts;
        private int length;

        Versions(int most, int width) {
            value = new int[most];
            size = new int[most];
            counts = new int[most][width];
        }

        boolean has(int i) {
            return i >= 0 && i < length;
        }

        boolean isFull() {
            return length >= value.length;
        }

        void clear() {
            length = 0;
        }

        void add(int newValue, int newSize, int[] vector) {
            if (isFull()) {
                return;
            }
            value[length] = newValue;
            size[length] = newSize;
            assign(counts[length], vector);
            length++;
        }

        void addOnce(int newValue, int newSize, int[] vector) {
            for (int i = 0; i < length; i++) {
                if (isAt(i, newValue, newSize, vector)) {
                    return;
                }
            }
            add(newValue, newSize, vector);
        }

        boolean isAt(int i, int someValue, int someSize, int[] vector) {
            return value[i] == someValue && size[i] == someSize && isSame(counts[i], vector);
        }

        boolean isLike(Versions other) {
            if (length != other.length) {
                return false;
            }
            for (int i = 0; i < length; i++) {
                if (!isAt(i, other.value[i], other.size[i], other.counts[i])) {
                    return false;
                }
            }
            return true;
        }

        void takeFirst(Versions from) {
            clear();
            for (int i = 0; i < from.length && !isFull(); i++) {
                add(from.value[i], from.size[i], from.counts[i]);
            }
        }

        /** One that is left out is at most one that stays, so taking them out one by one changes nothing for the others. */
        void leaveOutLesser() {
            for (int i = length - 1; i >= 0; i--) {
                if (isLesser(i)) {
                    leaveOut(i);
                }
            }
        }

        private boolean isLesser(int i) {
            for (int j = 0; j < length; j++) {
                if (isAtMost(counts[i], counts[j]) && !isSame(counts[i], counts[j])) {
                    return true;
                }
            }
            return false;
        }

        private void leaveOut(int i) {
            for (int j = i + 1; j < length; j++) {
                value[j - 1] = value[j];
                size[j - 1] = size[j];
                assign(counts[j - 1], counts[j]);
            }
            length--;
        }
    }

    private static final class Server {
        private final Tree tree;
        private final Versions[] versions = new Versions[OBJECTS];
        private final int[] marks = new int[OBJECTS];
        private boolean losesPhase;

        Server(Catalog catalog, int width) {
            tree = new Tree(catalog, width);
            tree.held[ROOT] = true;
            for (int o = 0; o < OBJECTS; o++) {
                versions[o] = new Versions(MOST_VERSIONS, width);
            }
        }

        boolean isInConflict(int object) {
            return versions[object].length > 0;
        }

        void drop(int object) {
            tree.drop(object);
            versions[object].clear();
        }

        void setPlain(int file, int value, int size, int[] vector) {
            tree.held[file] = true;
            tree.setFile(file, value, size);
            assign(tree.counts[file], vector);
            versions[file].clear();
        }

        boolean isPlain(int file, Versions one) {
            return tree.held[file] && !isInConflict(file) && one.has(0)
                    && one.isAt(0, tree.value[file], tree.size[file], tree.counts[file]);
        }

        void setVersions(int file, Versions some, int[] vector) {
            versions[file].takeFirst(some);
            tree.held[file] = true;
            tree.setFile(file, some.value[0], some.size[0]);
            assign(tree.counts[file], vector);
        }

        boolean isCopyLike(Server other, int object) {
            return tree.isCopyLike(other.tree, object) && versions[object].isLike(other.versions[object]);
        }
    }

    private static final class Log {
        private final int[] kind = new int[MOST_RECORDS];
        private final int[] object = new int[MOST_RECORDS];
        private final int[] directory = new int[MOST_RECORDS];
        private final int[][] counts;
        private int length;

        Log(int width) {
            counts = new int[MOST_RECORDS][width];
        }

        int indexOf(int someKind, int someObject) {
            for (int i = 0; i < length; i++) {
                if (kind[i] == someKind && object[i] == someObject) {
                    return i;
                }
            }
            return NO;
        }

        boolean isFull() {
            return length >= MOST_RECORDS;
        }

        void add(int newKind, int newObject, int newDirectory, int[] vector) {
            if (isFull()) {
                return;
            }
            kind[length] = newKind;
            object[length] = newObject;
            directory[length] = newDirectory;
            assign(counts[length], vector);
            length++;
        }

        void takeOut(int someKind, int someObject) {
            int at = indexOf(someKind, someObject);
            if (at == NO) {
                return;
            }
            for (int i = at + 1; i < length; i++) {
                kind[i - 1] = kind[i];
                object[i - 1] = object[i];
                directory[i - 1] = directory[i];
                assign(counts[i - 1], counts[i]);
            }
            length--;
        }
    }

    /** A client: its cache, its log, and what it does alone. */
    private static final class Client {
        private final int number;
        private final Catalog catalog;
        private final int[] tallies;
        private final Tree tree;
        private final int[] priority = new int[OBJECTS];
        private final int[] promised = new int[OBJECTS];
        private final boolean[] dirty = new boolean[OBJECTS];
        private final int[] used = new int[OBJECTS];
        private final Log log;
        private int uses;
        private int usesBeforeCall;
        private int versionsTold;

        Client(int number, Catalog catalog, int width, int[] tallies) {
            this.number = number;
            this.catalog = catalog;
            this.tallies = tallies;
            tree = new Tree(catalog, width);
            log = new Log(width);
        }

        void startCall() {
            usesBeforeCall = uses;
        }

        void use(int object) {
            uses++;
            used[object] = uses;
        }

        long useOwn(int object) {
            if (!tree.held[object]) {
                return MISS;
            }
            use(object);
            return GOT;
        }

        boolean isGood(int object, int near) {
            return tree.held[object] && near != 0 && (near & ~promised[object]) == 0;
        }

        void forgetPromisesOf(int server) {
            for (int o = 0; o < OBJECTS; o++) {
                promised[o] &= ~(1 << server);
            }
        }

        void drop(int object) {
            tree.drop(object);
            promised[object] = 0;
            dirty[object] = false;
        }

        private int weightOf(int object) {
            if (!tree.held[object]) {
                return 0;
            }
            return fullWeight(object, tree.size[object]);
        }

        private int fullWeight(int object, int size) {
            return catalog.isDirectory[object] ? DIRECTORY_WEIGHT : 1 + size;
        }

        private boolean mayGo(int object, int below) {
            return tree.held[object] && !dirty[object] && used[object] <= usesBeforeCall && priority[object] < below;
        }

        /** Makes room for so much more weight, by what has a priority below the one told; if it can't, nothing goes. */
        private boolean makeRoom(int more, int below) {
            if (more <= 0) {
                return true;
            }
            int free = CACHE_WEIGHT;
            int freeAtMost = CACHE_WEIGHT;
            for (int o = 0; o <= catalog.made; o++) {
                free -= weightOf(o);
                freeAtMost -= mayGo(o, below) ? 0 : weightOf(o);
            }
            if (freeAtMost < more) {
                return false;
            }
            for (int gone = 0; gone < OBJECTS && free < more; gone++) {
                int next = nextToGo(below);
                if (next == NO) {
                    return false;
                }
                free += weightOf(next);
                drop(next);
                tallies[TOLD_WENT]++;
            }
            return true;
        }

        private int nextToGo(int below) {
            int next = NO;
            for (int o = 0; o <= catalog.made; o++) {
                if (mayGo(o, below) && (next == NO || goesBefore(o, next))) {
                    next = o;
                }
            }
            return next;
        }

        private boolean goesBefore(int object, int other) {
            if (priority[object] != priority[other]) {
                return priority[object] < priority[other];
            }
            return used[object] < used[other];
        }

        void takeIn(Tree from, int object, int promises, int below) {
            int more = fullWeight(object, from.size[object]) - weightOf(object);
            if (!makeRoom(more, below)) {
                drop(object);
                return;
            }
            tree.takeFrom(from, object);
            promised[object] = promises;
            tallies[TOLD_CAME]++;
        }

        void changeFile(int file, int value, int size) {
            if (!tree.held[file]) {
                return;
            }
            if (!makeRoom(size - tree.size[file], ANY_PRIORITY)) {
                drop(file);
                return;
            }
            tree.setFile(file, value, size);
        }

        void takeInMade(int directory, int object, int promises) {
            if (tree.held[directory]) {
                tree.setThere(object);
            }
            if (!makeRoom(fullWeight(object, 0), ANY_PRIORITY)) {
                return;
            }
            tree.createCopy(object);
            promised[object] = promises;
            use(object);
        }

        void dropRemoved(int directory, int object) {
            if (tree.held[directory]) {
                tree.setGone(object, tree.counts[object]);
            }
            drop(object);
        }

        long writeAlone(int file, int value, int size) {
            boolean isNew = log.indexOf(WRITE, file) == NO;
            if (isNew && log.isFull()) {
                return FULL;
            }
            if (!makeRoom(size - tree.size[file], ANY_PRIORITY)) {
                return NO_ROOM;
            }
            if (isNew) {
                log.add(WRITE, file, NO, tree.counts[file]);
            }
            tree.setFile(file, value, size);
            dirty[file] = true;
            return 0L;
        }

        long makeAlone(int directory, int name, boolean isDirectory) {
            if (log.isFull()) {
                return FULL;
            }
            if (!makeRoom(isDirectory ? DIRECTORY_WEIGHT : 1, ANY_PRIORITY)) {
                return NO_ROOM;
            }
            int object = catalog.enter(directory, name, isDirectory);
            if (object == NO) {
                return FULL;
            }
            tree.createCopy(object);
            tree.setThere(object);
            use(object);
            log.add(MAKE, object, directory, tree.counts[object]);
            dirty[object] = true;
            dirty[directory] = true;
            return object;
        }

        long removeAlone(int directory, int object) {
            if (log.indexOf(MAKE, object) != NO) {
                undoMake(object);
                return 0L;
            }
            // its own write is taken out, so a full log that has it has room for the removal
            if (log.isFull() && log.indexOf(WRITE, object) == NO) {
                return FULL;
            }
            log.takeOut(WRITE, object);
            log.add(REMOVE, object, directory, tree.counts[object]);
            dropRemoved(directory, object);
            dirty[directory] = true;
            return 0L;
        }

        private void undoMake(int object) {
            log.takeOut(MAKE, object);
            log.takeOut(WRITE, object);
            tree.forgetEntry(object);
            drop(object);
            for (int o = 0; o < OBJECTS && log.length == 0; o++) {
                dirty[o] = false;
            }
        }

        void endLog() {
            log.length = 0;
            for (int o = 0; o <= catalog.made; o++) {
                if (dirty[o]) {
                    drop(o);
                }
            }
        }
    }

    /** What servers do together, and what it does to the clients' promises. */
    private static final class Replicas {
        private final Catalog catalog;
        private final Server[] servers;
        private final Client[] clients;
        private final int[] tallies;

        Replicas(Catalog catalog, Server[] servers, Client[] clients, int[] tallies) {
            this.catalog = catalog;
            this.servers = servers;
            this.clients = clients;
            this.tallies = tallies;
        }

        int holders(int set, int object) {
            int holders = 0;
            for (int s = 0; s < servers.length; s++) {
                if (isIn(set, s) && servers[s].tree.held[object]) {
                    holders |= 1 << s;
                }
            }
            return holders;
        }

        /** Those with a copy of this vector, in conflict or not. */
        private int holdersWith(int set, int object, int[] vector) {
            int holders = holders(set, object);
            for (int s = 0; s < servers.length; s++) {
                if (isIn(holders, s) && !isSame(servers[s].tree.counts[object], vector)) {
                    holders &= ~(1 << s);
                }
            }
            return holders;
        }

        /** Those with a copy of this vector that is not in conflict. */
        int holdersOf(int set, int object, int[] vector) {
            int holders = holdersWith(set, object, vector);
            for (int s = 0; s < servers.length; s++) {
                if (isIn(holders, s) && servers[s].isInConflict(object)) {
                    holders &= ~(1 << s);
                }
            }
            return holders;
        }

        int leastGreatest(int set, int object) {
            int holders = holders(set, object);
            for (int s = 0; s < servers.length; s++) {
                if (isIn(holders, s) && isGreatest(holders, object, servers[s].tree.counts[object])) {
                    return s;
                }
            }
            return NO;
        }

        private boolean isGreatest(int holders, int object, int[] vector) {
            for (int s = 0; s < servers.length; s++) {
                if (isIn(holders, s) && !isAtMost(servers[s].tree.counts[object], vector)) {
                    return false;
                }
            }
            return true;
        }

        int leastOf(int set) {
            for (int s = 0; s < servers.length; s++) {
                if (isIn(set, s)) {
                    return s;
                }
            }
            return 0;
        }

        int leastInConflict(int set, int file) {
            for (int s = 0; s < servers.length; s++) {
                if (isIn(set, s) && servers[s].isInConflict(file)) {
                    return s;
                }
            }
            return NO;
        }

        void writeAt(int set, int file, int value, int size) {
            for (int s = 0; s < servers.length; s++) {
                if (isIn(set, s)) {
                    servers[s].tree.setFile(file, value, size);
                    tallies[TOLD_ACTS]++;
                }
            }
        }

        void makeAt(int set, int object) {
            for (int s = 0; s < servers.length; s++) {
                if (isIn(set, s)) {
                    servers[s].tree.setThere(object);
                    servers[s].tree.createCopy(object);
                    tallies[TOLD_ACTS]++;
                }
            }
        }

        void removeAt(int set, int object, int[] vector) {
            for (int s = 0; s < servers.length; s++) {
                if (isIn(set, s)) {
                    removeAtOne(servers[s], object, vector);
                    tallies[TOLD_ACTS]++;
                }
            }
        }

        private void removeAtOne(Server s, int object, int[] vector) {
            s.tree.setGone(object, vector);
            boolean isKnown = isAtMost(s.tree.counts[object], vector) && !s.isInConflict(object);
            if (s.tree.held[object] && isKnown && !s.tree.holdsSomethingIn(object)) {
                s.drop(object);
            }
        }

        private void growMarks(int set, int object) {
            for (int s = 0; s < servers.length; s++) {
                if (isIn(set, s)) {
                    servers[s].marks[object]++;
                }
            }
        }

        void copyMarks(int set, int object, int[] vector) {
            for (int s = 0; s < servers.length; s++) {
                if (isIn(set, s)) {
                    vector[s] = servers[s].marks[object];
                }
            }
        }

        /** Counts in two phases: answers the servers for which the second one was lost. */
        int countAct(int set, int object) {
            growMarks(set, object);
            int lost = 0;
            for (int s = 0; s < servers.length; s++) {
                if (!isIn(set, s)) {
                    continue;
                }
                boolean loses = servers[s].losesPhase;
                copyMarks(loses ? 1 << s : set, object, servers[s].tree.counts[object]);
                if (loses) {
                    servers[s].losesPhase = false;
                    tallies[TOLD_PHASES_LOST]++;
                    lost |= 1 << s;
                }
            }
            return lost;
        }

        /** Counts in each one's vector; nothing is lost. */
        void countAll(int set, int object) {
            growMarks(set, object);
            for (int s = 0; s < servers.length; s++) {
                if (isIn(set, s)) {
                    copyMarks(set, object, servers[s].tree.counts[object]);
                }
            }
        }

        void endPromises(int set, int object) {
            for (int c = 0; c < clients.length; c++) {
                clients[c].promised[object] &= ~set;
            }
        }

        void endPromisesToOthers(Client own, int set, int object) {
            for (int c = 0; c < clients.length; c++) {
                if (c != own.number) {
                    clients[c].promised[object] &= ~set;
                }
            }
        }

        /** Repairs a file with version i of server s. */
        int settle(int near, int file, int s, int i) {
            Versions versions = servers[s].versions[file];
            int value = versions.value[i];
            int size = versions.size[i];
            int set = holdersWith(near, file, servers[s].tree.counts[file]);
            for (int t = 0; t < servers.length; t++) {
                if (isIn(set, t)) {
                    servers[t].tree.setFile(file, value, size);
                    servers[t].versions[file].clear();
                }
            }
            countAct(set, file);
            endPromises(set, file);
            return Integer.bitCount(set);
        }

        boolean areAlike(int set, int object) {
            Server first = servers[leastOf(set)];
            for (int s = 0; s < servers.length; s++) {
                if (isIn(set, s) && !servers[s].isCopyLike(first, object)) {
                    return false;
                }
            }
            return true;
        }

        boolean allAlike(int set) {
            for (int o = ROOT; o <= catalog.made; o++) {
                if (!areAlike(set, o)) {
                    return false;
                }
            }
            return true;
        }
    }

    /** A client's log, record by record, at the servers near it. */
    private static final class HandingIn {
        private final Replicas replicas;
        private final int[] vector;
        private Client client;
        private int near;
        private int least;

        HandingIn(Replicas replicas, int width) {
            this.replicas = replicas;
            vector = new int[width];
            client = replicas.clients[0];
        }

        void handInAll(Client c, int nearIt) {
            client = c;
            near = nearIt;
            least = replicas.leastOf(near);
            for (int i = 0; i < c.log.length; i++) {
                switch (c.log.kind[i]) {
                    case WRITE:
                        handInWrite(c.log.object[i], c.log.counts[i]);
                        break;
                    case MAKE:
                        handInMake(c.log.directory[i], c.log.object[i]);
                        break;
                    default:
                        handInRemove(c.log.directory[i], c.log.object[i], c.log.counts[i]);
                        break;
                }
            }
            c.endLog();
        }

        private void handInWrite(int file, int[] known) {
            Server s = replicas.servers[least];
            if (!s.tree.held[file]) {
                replicas.tallies[TOLD_LOST]++;
                return;
            }
            if (s.isInConflict(file) || !isSame(s.tree.counts[file], known)) {
                handInVersion(s, file, known);
                return;
            }
            int set = replicas.holdersOf(near, file, known);
            replicas.writeAt(set, file, client.tree.value[file], client.tree.size[file]);
            replicas.countAct(set, file);
            replicas.endPromises(set, file);
        }

        private void handInVersion(Server s, int file, int[] known) {
            Versions versions = s.versions[file];
            if (versions.isFull()) {
                replicas.tallies[TOLD_LOST]++;
                return;
            }
            if (versions.length == 0) {
                versions.add(s.tree.value[file], s.tree.size[file], s.tree.counts[file]);
            }
            client.versionsTold++;
            assign(vector, known);
            vector[replicas.servers.length + client.number] = client.versionsTold;
            versions.add(client.tree.value[file], client.tree.size[file], vector);
            raise(s.tree.counts[file], vector);
            replicas.countAll(1 << least, file);
            replicas.endPromises(1 << least, file);
        }

        private void handInMake(int directory, int object) {
            if (!replicas.servers[least].tree.held[directory]) {
                replicas.tallies[TOLD_LOST]++;
                return;
            }
            int set = replicas.holders(near, directory);
            replicas.makeAt(set, object);
            replicas.countAct(set, directory);
            replicas.endPromises(set, directory);
        }

        private void handInRemove(int directory, int object, int[] known) {
            Server s = replicas.servers[least];
            if (!s.tree.held[object] || !s.tree.held[directory] || s.tree.state[object] == IS_GONE) {
                return;
            }
            if (!isAtMost(s.tree.counts[object], known) || s.isInConflict(object) || s.tree.thereIn(object) > 0) {
                replicas.tallies[TOLD_REFUSED]++;
                return;
            }
            int set = replicas.holdersOf(near, directory, s.tree.counts[directory]);
            replicas.removeAt(set, object, known);
            replicas.countAct(set, directory);
            replicas.endPromises(set, directory);
            replicas.endPromises(set, object);
        }
    }

    /** Servers that put their trees together. */
    private static final class Meeting {
        private final Replicas replicas;
        private final Catalog catalog;
        private final Server[] servers;
        private final Versions candidates;
        /** The greater of each count of some vectors. */
        private final int[] greater;
        /** Of the object that is to be dropped: what is in it, however deep, and itself. */
        private final boolean[] inside = new boolean[OBJECTS];
        private int group;
        private int changes;

        Meeting(Replicas replicas, int width) {
            this.replicas = replicas;
            catalog = replicas.catalog;
            servers = replicas.servers;
            candidates = new Versions(MOST_SERVERS * MOST_VERSIONS, width);
            greater = new int[width];
        }

        int hold(int members) {
            group = members;
            changes = 0;
            for (int o = ROOT; o <= catalog.made; o++) {
                if (o != ROOT && !isToStay(o)) {
                    continue;
                }
                if (catalog.isDirectory[o]) {
                    joinDirectory(o);
                } else {
                    joinFile(o);
                }
            }
            return changes;
        }

        /** The entries of its directory are alike in the group by now. */
        private boolean isToStay(int object) {
            int state = servers[replicas.leastOf(group)].tree.state[object];
            if (state == IS_THERE) {
                return true;
            }
            if (replicas.holders(group, object) == 0) {
                return false;
            }
            if (state == IS_GONE) {
                if (canBeDropped(object)) {
                    dropInside();
                    return false;
                }
                bringBack(object);
            }
            return true;
        }

        /** What is in a directory has greater numbers than it has, so one way up the numbers sees all that is inside. */
        private boolean canBeDropped(int object) {
            for (int o = 0; o < OBJECTS; o++) {
                inside[o] = o == object;
            }
            joinedState(object);
            if (!isKnownAtMost(object)) {
                return false;
            }
            for (int o = object + 1; o <= catalog.made; o++) {
                inside[o] = inside[catalog.parent[o]];
                if (!inside[o]) {
                    continue;
                }
                int state = joinedState(o);
                if (state == IS_THERE || state == IS_GONE && !isKnownAtMost(o)) {
                    return false;
                }
            }
            return true;
        }

        /** Gone if one of the group has it so; greater is then that of the vectors with which it is gone, else all 0. */
        private int joinedState(int object) {
            Arrays.fill(greater, 0);
            int joined = UNKNOWN;
            for (int s = 0; s < servers.length; s++) {
                if (isIn(group, s)) {
                    joined = Math.max(joined, servers[s].tree.state[object]);
                    raise(greater, servers[s].tree.goneCounts[object]);
                }
            }
            return joined;
        }

        /** Whether all copies and versions in the group are at most what stands in greater. */
        private boolean isKnownAtMost(int object) {
            int holders = replicas.holders(group, object);
            for (int s = 0; s < servers.length; s++) {
                if (!isIn(holders, s)) {
                    continue;
                }
                if (!isAtMost(servers[s].tree.counts[object], greater)) {
                    return false;
                }
                Versions versions = servers[s].versions[object];
                for (int i = 0; i < versions.length; i++) {
                    if (!isAtMost(versions.counts[i], greater)) {
                        return false;
                    }
                }
            }
            return true;
        }

        private void dropInside() {
            for (int o = ROOT; o <= catalog.made; o++) {
                if (!inside[o]) {
                    continue;
                }
                int holders = replicas.holders(group, o);
                for (int s = 0; s < servers.length; s++) {
                    if (isIn(holders, s)) {
                        servers[s].drop(o);
                    }
                }
                noteChange(holders, o);
            }
        }

        private void noteChange(int set, int object) {
            changes += Integer.bitCount(set);
            replicas.endPromises(set, object);
        }

        private void bringBack(int object) {
            for (int s = 0; s < servers.length; s++) {
                if (isIn(group, s)) {
                    servers[s].tree.setThere(object);
                }
            }
            int directory = catalog.parent[object];
            replicas.countAll(group, directory);
            noteChange(group, directory);
        }

        private boolean allHold(int object) {
            return replicas.holders(group, object) == group;
        }

        private void joinDirectory(int directory) {
            if (allHold(directory) && replicas.areAlike(group, directory)) {
                return;
            }
            for (int o = directory + 1; o <= catalog.made; o++) {
                if (catalog.parent[o] == directory) {
                    joinEntry(o);
                }
            }
            raiseToAll(directory);
            for (int s = 0; s < servers.length; s++) {
                if (isIn(group, s)) {
                    servers[s].tree.held[directory] = true;
                    assign(servers[s].tree.counts[directory], greater);
                }
            }
            replicas.countAll(group, directory);
            noteChange(group, directory);
        }

        private void joinEntry(int object) {
            int state = joinedState(object);
            for (int s = 0; s < servers.length; s++) {
                if (isIn(group, s)) {
                    servers[s].tree.state[object] = state;
                    assign(servers[s].tree.goneCounts[object], greater);
                }
            }
        }

        /** Greater becomes that of all copies and versions in the group. */
        private void raiseToAll(int object) {
            Arrays.fill(greater, 0);
            int holders = replicas.holders(group, object);
            for (int s = 0; s < servers.length; s++) {
                if (!isIn(holders, s)) {
                    continue;
                }
                raise(greater, servers[s].tree.counts[object]);
                Versions versions = servers[s].versions[object];
                for (int i = 0; i < versions.length; i++) {
                    raise(greater, versions.counts[i]);
                }
            }
        }

        private void joinFile(int file) {
            gatherCandidates(file);
            if (candidates.length == 1) {
                giveOne(file);
                return;
            }
            boolean allHaveJustThese = allHold(file) && replicas.areAlike(group, file)
                    && servers[replicas.leastOf(group)].versions[file].isLike(candidates);
            if (candidates.length > 1 && !allHaveJustThese) {
                giveSeveral(file);
            }
        }

        private void gatherCandidates(int file) {
            candidates.clear();
            int holders = replicas.holders(group, file);
            for (int s = 0; s < servers.length; s++) {
                if (!isIn(holders, s)) {
                    continue;
                }
                Tree tree = servers[s].tree;
                Versions versions = servers[s].versions[file];
                if (versions.length == 0) {
                    candidates.addOnce(tree.value[file], tree.size[file], tree.counts[file]);
                }
                for (int i = 0; i < versions.length; i++) {
                    candidates.addOnce(versions.value[i], versions.size[i], versions.counts[i]);
                }
            }
            candidates.leaveOutLesser();
        }

        private void giveOne(int file) {
            for (int s = 0; s < servers.length; s++) {
                if (isIn(group, s) && !servers[s].isPlain(file, candidates)) {
                    servers[s].setPlain(file, candidates.value[0], candidates.size[0], candidates.counts[0]);
                    noteChange(1 << s, file);
                }
            }
        }

        private void giveSeveral(int file) {
            raiseToAll(file);
            for (int s = 0; s < servers.length; s++) {
                if (isIn(group, s)) {
                    servers[s].setVersions(file, candidates, greater);
                }
            }
            replicas.countAll(group, file);
            noteChange(group, file);
            replicas.tallies[TOLD_LOST] += Math.max(0, candidates.length - MOST_VERSIONS);
        }
    }
}
