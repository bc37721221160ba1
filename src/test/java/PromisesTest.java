/** For each promise of the document: ordinary calls, the edges it names, and wrong arguments. */
public final class PromisesTest {
    private static final long NONE = ReplicaFiles.NONE;
    private static final long MISS = ReplicaFiles.MISS;
    private static final long GONE = ReplicaFiles.GONE;
    private static final long APART = ReplicaFiles.APART;
    private static final long CONFLICT = ReplicaFiles.CONFLICT;
    private static final long FULL = ReplicaFiles.FULL;
    private static final long NO_ROOM = ReplicaFiles.NO_ROOM;
    private static final long WRONG = ReplicaFiles.WRONG;
    private static final long IS_ALONE = ReplicaFiles.IS_ALONE;

    private static int wrong = 0;
    private static int checked = 0;
    private static String part = "";

    private interface Call {
        Object run();
    }

    public static void main(String[] args) {
        constants();
        newObject();
        link();
        server();
        lose();
        priority();
        find();
        read();
        readKeepsPromises();
        write();
        writeMakesRoom();
        writeAlone();
        make();
        makeAlone();
        remove();
        removeDirectory();
        removeAlone();
        logIsFull();
        noRoomAlone();
        handInWrites();
        handInVersions();
        handInMakes();
        handInRemoves();
        walk();
        walkMakesRoomByLesser();
        meetDirectories();
        meetFiles();
        meetGone();
        meetGoneDirectory();
        meetThereAgainForNested();
        meetWithinGroup();
        meetLosesVersions();
        repair();
        copyAndVector();
        entry();
        cached();
        record();
        told();
        wrongArguments();
        argumentsOrder();
        System.out.println("promises: " + checked + " checks, " + wrong + " wrong");
        if (wrong != 0) {
            System.exit(1);
        }
    }

    private static void due(String call, long got, long want) {
        checked++;
        if (got != want) {
            wrong++;
            System.out.println(part + ": " + call + " answered " + got + ", due is " + want);
        }
    }

    private static void due(String call, boolean got, boolean want) {
        due(call, got ? 1 : 0, want ? 1 : 0);
    }

    private static void outOfBounds(String call, Call c) {
        due(call + " throws (1 IndexOutOfBounds, 2 IllegalArgument)", thrownBy(c), 1);
    }

    private static void illegal(String call, Call c) {
        due(call + " throws (1 IndexOutOfBounds, 2 IllegalArgument)", thrownBy(c), 2);
    }

    private static int thrownBy(Call c) {
        try {
            c.run();
        } catch (RuntimeException e) {
            return e.getClass() == IndexOutOfBoundsException.class ? 1
                    : e.getClass() == IllegalArgumentException.class ? 2 : 3;
        }
        return 0;
    }

    private static ReplicaFiles fresh(String name, int servers) {
        part = name;
        return new ReplicaFiles(servers);
    }

    /** Of a vector the counts of the servers, as digits. */
    private static void vectorIs(ReplicaFiles x, int server, int object, int version, int... counts) {
        for (int k = 0; k < counts.length; k++) {
            due("vector(" + server + ", " + object + ", " + version + ", " + k + ")",
                    x.vector(server, object, version, k), counts[k]);
        }
    }

    private static void onlyNear(ReplicaFiles x, int servers, int client, int... near) {
        for (int s = 0; s < servers; s++) {
            boolean up = false;
            for (int n : near) {
                up |= n == s;
            }
            x.link(s, 4 + client, up);
        }
    }

    private static void apart(ReplicaFiles x, int servers, boolean up) {
        for (int s = 0; s < servers; s++) {
            for (int t = s + 1; t < servers; t++) {
                x.link(s, t, up);
            }
        }
    }

    private static void constants() {
        part = "constants";
        due("NO", ReplicaFiles.NO, -1);
        long base = -2199023255552L;
        long[] all = {NONE, MISS, GONE, APART, CONFLICT, FULL, NO_ROOM, WRONG, IS_ALONE};
        for (int i = 0; i < all.length; i++) {
            due("constant " + i, all[i], base - i);
        }
    }

    private static void newObject() {
        int[] asked = {Integer.MIN_VALUE, -1, 0, 1, 2, 3, 4, 5, Integer.MAX_VALUE};
        int[] due = {1, 1, 1, 1, 2, 3, 4, 4, 4};
        for (int i = 0; i < asked.length; i++) {
            ReplicaFiles x = fresh("1 a new object", asked[i]);
            for (int s = 0; s < due[i]; s++) {
                due("copy of the root", x.copy(s, 0, 3), 0);
                due("server is up", x.server(s, true), false);
                for (int other = 0; other < 8; other++) {
                    if (other != s && (other < due[i] || other > 3)) {
                        due("link is up", x.link(s, other, true), false);
                    }
                }
                vectorIs(x, s, 0, -1, new int[due[i] + 4]);
                due("no other object", x.copy(s, 1, 0), NONE);
            }
            int n = due[i];
            outOfBounds("copy of server " + n, () -> x.copy(n, 0, 0));
            due("told(0)", x.told(0), 0);
            due("told(7)", x.told(7), 1);
            due("cached", x.cached(3, 0, 0), NONE);
            due("record", x.record(3, 0, 0), NONE);
        }
    }

    private static void link() {
        ReplicaFiles x = fresh("2 link", 3);
        due("link(0, 1, false)", x.link(0, 1, false), true);
        due("link(0, 1, false)", x.link(0, 1, false), false);
        due("link(1, 0, false), the same one", x.link(1, 0, false), false);
        due("link(1, 0, true)", x.link(1, 0, true), true);
        due("link(0, 1, true)", x.link(0, 1, true), false);
        due("link(2, 7, false)", x.link(2, 7, false), true);
        due("link(2, 6, false)", x.link(2, 6, false), true);
        due("link(2, 7, true)", x.link(2, 7, true), true);
        outOfBounds("a server and itself", () -> x.link(1, 1, true));
        outOfBounds("no such server", () -> x.link(3, 4, true));
        outOfBounds("no such server", () -> x.link(-1, 4, true));
        outOfBounds("no such other server", () -> x.link(0, 3, true));
        outOfBounds("a client in front", () -> x.link(4, 0, true));
        outOfBounds("no such client", () -> x.link(0, 8, true));
        outOfBounds("no such other", () -> x.link(0, -1, true));
    }

    private static void server() {
        ReplicaFiles x = fresh("3 server", 2);
        due("server(1, false)", x.server(1, false), true);
        due("server(1, false)", x.server(1, false), false);
        due("write at the one that is up", x.make(0, 0, 1, false), 1);
        due("none at the other one", x.copy(1, 1, 0), NONE);
        due("server(1, true)", x.server(1, true), true);
        due("server(1, true)", x.server(1, true), false);
        due("server(0, false)", x.server(0, false), true);
        due("the new file is not near", x.read(1, 1), GONE);
        due("links outlive it", x.link(0, 4, true), false);
        outOfBounds("server(2, true)", () -> x.server(2, true));
        outOfBounds("server(-1, true)", () -> x.server(-1, true));
    }

    private static void lose() {
        ReplicaFiles x = fresh("4 lose", 2);
        due("lose(1)", x.lose(1), true);
        due("lose(1)", x.lose(1), false);
        due("lose(0)", x.lose(0), true);
        due("make", x.make(0, 0, 1, false), 1);
        vectorIs(x, 0, 0, -1, 1, 0);
        vectorIs(x, 1, 0, -1, 0, 1);
        due("told(4)", x.told(4), 2);
        due("promised by none for the directory", x.cached(0, 0, 2), 0);
        due("promised by all for what was made", x.cached(0, 1, 2), 3);
        due("over then", x.lose(1), true);
        due("write", x.write(0, 1, 5, 0), 2);
        vectorIs(x, 0, 1, -1, 1, 1);
        vectorIs(x, 1, 1, -1, 0, 1);
        due("promised by one", x.cached(0, 1, 2), 1);
        outOfBounds("lose(2)", () -> x.lose(2));
        outOfBounds("lose(-1)", () -> x.lose(-1));
    }

    private static void priority() {
        ReplicaFiles x = fresh("5 priority", 1);
        due("first", x.priority(0, 47, 9), 0);
        due("then", x.priority(0, 47, 0), 9);
        due("then", x.priority(0, 47, 3), 0);
        due("of another client", x.priority(3, 47, 1), 0);
        due("of another object", x.priority(0, 0, 1), 0);
        illegal("p = 10", () -> x.priority(0, 0, 10));
        illegal("p = -1", () -> x.priority(0, 0, -1));
        outOfBounds("client 4", () -> x.priority(4, 0, 1));
        outOfBounds("object 48", () -> x.priority(0, 48, 1));
        outOfBounds("object -1", () -> x.priority(0, -1, 1));
        due("unchanged by wrong calls", x.priority(0, 0, 2), 1);
    }

    private static void find() {
        ReplicaFiles x = fresh("6 find", 2);
        x.make(0, 0, 7, false);
        x.make(0, 0, 7, true);
        x.make(0, 2, 7, false);
        due("the least", x.find(1, 0, 7), 1);
        due("another name", x.find(1, 0, 8), NONE);
        due("in a directory", x.find(1, 2, 7), 3);
        x.remove(0, 0, 1);
        due("the next when it is gone", x.find(1, 0, 7), 2);
        due("a file", x.find(1, 1, 7), WRONG);
        due("never made", x.find(1, 4, 7), NONE);
        due("never made", x.find(1, 47, 7), NONE);
        onlyNear(x, 2, 1);
        due("alone, kept", x.find(1, 0, 7), 2);
        onlyNear(x, 2, 3);
        due("alone, not kept", x.find(3, 0, 7), MISS);
        due("alone, wrong ahead of miss", x.find(3, 1, 7), WRONG);
        due("alone, none ahead of miss", x.find(3, 30, 7), NONE);
        onlyNear(x, 2, 0, 0);
        x.make(0, 0, 1, true);
        onlyNear(x, 2, 0, 1);
        x.make(0, 0, 2, true);
        due("apart", x.find(2, 0, 1), APART);
        onlyNear(x, 2, 2, 0);
        due("at one of them", x.find(2, 0, 1), 4);
        illegal("name 16", () -> x.find(0, 0, 16));
        illegal("name -1", () -> x.find(0, 0, -1));
        outOfBounds("client -1", () -> x.find(-1, 0, 1));
        outOfBounds("object 48", () -> x.find(0, 48, 1));
    }

    private static void read() {
        ReplicaFiles x = fresh("7 read", 3);
        x.make(0, 0, 1, false);
        due("a new file", x.read(1, 1), 0);
        x.write(0, 1, -77, 6);
        due("what was written", x.read(1, 1), -77);
        due("a directory", x.read(1, 0), WRONG);
        due("never made", x.read(1, 2), NONE);
        onlyNear(x, 3, 0, 1, 2);
        x.write(0, 1, 5, 1);
        due("the greatest, not the least server's", x.read(1, 1), 5);
        due("promised by those that have it", x.cached(1, 1, 2), 6);
        due("so it is not good", x.cached(1, 1, 4), 0);
        onlyNear(x, 3, 2, 0);
        due("who sees the old one alone", x.read(2, 1), -77);
        x.write(2, 1, 6, 1);
        due("apart", x.read(1, 1), APART);
        due("what was there stays", x.cached(1, 1, 0), 5);
        x.meet(0);
        due("conflict", x.read(1, 1), CONFLICT);
        onlyNear(x, 3, 1);
        due("alone: what was kept", x.read(1, 1), 5);
        outOfBounds("client 4", () -> x.read(4, 1));
        outOfBounds("object -1", () -> x.read(0, -1));
        outOfBounds("object 48", () -> x.read(0, 48));
    }

    private static void readKeepsPromises() {
        ReplicaFiles x = fresh("7 read, promises", 2);
        x.make(0, 0, 1, false);
        x.read(1, 1);
        int came = x.told(5);
        x.read(1, 1);
        due("a good one does not come again", x.told(5), came);
        x.write(0, 1, 3, 0);
        due("ended by a write", x.cached(1, 1, 2), 0);
        due("the writer's is promised", x.cached(0, 1, 2), 3);
        x.read(1, 1);
        due("it came again", x.told(5), came + 1);
        x.link(0, 5, false);
        due("ended where it is near no more", x.cached(1, 1, 2), 2);
        due("good by the one that is near", x.cached(1, 1, 4), 1);
        x.link(0, 5, true);
        due("not back with the link", x.cached(1, 1, 2), 2);
        due("not good", x.cached(1, 1, 4), 0);
        x.read(1, 1);
        x.server(1, false);
        due("ended with the server", x.cached(1, 1, 2), 1);
        x.server(1, true);
        due("not back with the server", x.cached(1, 1, 2), 1);
        x.remove(0, 0, 1);
        due("ended by the removal", x.cached(1, 1, 2), 0);
        due("gone", x.read(1, 1), GONE);
        due("out of the cache", x.cached(1, 1, 0), NONE);
    }

    private static void write() {
        ReplicaFiles x = fresh("8 write", 3);
        x.make(0, 0, 1, false);
        due("all three", x.write(0, 1, Integer.MIN_VALUE, 6), 3);
        due("value", x.read(1, 1), Integer.MIN_VALUE);
        for (int s = 0; s < 3; s++) {
            due("size", x.copy(s, 1, 1), 6);
            vectorIs(x, s, 1, -1, 1, 1, 1, 0, 0, 0, 0);
        }
        onlyNear(x, 3, 0, 0, 1);
        due("two", x.write(0, 1, 4, 0), 2);
        vectorIs(x, 0, 1, -1, 2, 2, 1);
        vectorIs(x, 2, 1, -1, 1, 1, 1);
        due("the other one is as it was", x.copy(2, 1, 0), Integer.MIN_VALUE);
        due("those with what was got alone", x.write(1, 1, 5, 0), 2);
        vectorIs(x, 1, 1, -1, 3, 3, 1);
        due("directory", x.write(0, 0, 1, 1), WRONG);
        due("never made", x.write(0, 9, 1, 1), NONE);
        due("acts: 3 of make, 3 + 2 + 2", x.told(1), 10);
        illegal("size 7", () -> x.write(0, 1, 1, 7));
        illegal("size -1", () -> x.write(0, 1, 1, -1));
        outOfBounds("client 4", () -> x.write(4, 1, 1, 1));
        outOfBounds("object 48", () -> x.write(0, 48, 1, 1));
    }

    private static void writeMakesRoom() {
        ReplicaFiles x = fresh("8 write, room", 1);
        for (int i = 0; i < 4; i++) {
            x.make(0, 0, i, false);
        }
        x.write(0, 1, 1, 6);
        x.write(0, 2, 2, 6);
        x.write(0, 3, 3, 6);
        due("2 + 7 + 7 + 7 + 1 is full: nothing went but the directory and 4", x.told(6), 0);
        x.write(0, 4, 4, 0);
        x.priority(0, 1, 1);
        due("a write that grows", x.write(0, 4, 4, 2), 1);
        due("the directory was used longest ago", x.cached(0, 0, 0), NONE);
        due("1 stays for its priority", x.cached(0, 1, 0), 1);
        due("one went", x.told(6), 1);
        x.write(0, 4, 4, 3);
        due("2 is the next one", x.cached(0, 2, 0), NONE);
        due("1 stays", x.cached(0, 1, 0), 1);
        due("3 stays", x.cached(0, 3, 0), 3);
        due("two went", x.told(6), 2);
        x.write(0, 4, 4, 1);
        x.write(0, 4, 4, 6);
        due("nothing goes for a little growth again", x.told(6), 2);
    }

    private static void writeAlone() {
        ReplicaFiles x = fresh("8 write alone", 2);
        x.make(0, 0, 1, false);
        x.write(0, 1, 1, 1);
        onlyNear(x, 2, 0);
        due("alone", x.write(0, 1, 9, 2), 0);
        due("again", x.write(0, 1, 10, 3), 0);
        due("one record", x.record(0, 0, 0), 0);
        due("one record", x.record(0, 1, 0), NONE);
        due("dirty", x.cached(0, 1, 3), 1);
        due("its own value", x.read(0, 1), 10);
        due("not at the servers", x.copy(0, 1, 0), 1);
        onlyNear(x, 2, 0, 0, 1);
        due("alone by its log", x.read(0, 1), 10);
        due("alone by its log", x.write(0, 1, 11, 3), 0);
        onlyNear(x, 2, 2);
        due("miss", x.write(2, 1, 1, 1), MISS);
    }

    private static void make() {
        ReplicaFiles x = fresh("9 make", 2);
        due("a file", x.make(0, 0, 3, false), 1);
        due("a directory", x.make(1, 0, 3, true), 2);
        due("in it", x.make(2, 2, 0, false), 3);
        for (int s = 0; s < 2; s++) {
            due("entries", x.copy(s, 0, 3), 2);
            vectorIs(x, s, 0, -1, 2, 2);
            vectorIs(x, s, 3, -1, 0, 0, 0, 0, 0, 0);
            due("a new file's value", x.copy(s, 3, 0), 0);
        }
        due("in its cache", x.cached(2, 3, 2), 3);
        due("the other's directory is not good", x.cached(0, 0, 2), 0);
        due("of a file", x.make(0, 1, 0, false), WRONG);
        due("of none", x.make(0, 40, 0, false), NONE);
        for (int i = 4; i <= 47; i++) {
            due("number " + i, x.make(i % 4, 0, i % 16, i % 2 == 0), i);
        }
        due("used up", x.make(0, 0, 0, false), FULL);
        due("used up, behind getting", x.make(0, 1, 0, false), WRONG);
        due("told(0)", x.told(0), 47);
        onlyNear(x, 2, 0);
        due("used up, alone", x.make(0, 0, 0, false), FULL);
        illegal("name 16", () -> x.make(0, 0, 16, false));
        illegal("name -1", () -> x.make(0, 0, -1, false));
        outOfBounds("client 4", () -> x.make(4, 0, 0, false));
        outOfBounds("object 48", () -> x.make(0, 48, 0, false));
    }

    private static void makeAlone() {
        ReplicaFiles x = fresh("9 make alone", 1);
        x.find(0, 0, 0);
        onlyNear(x, 1, 0);
        due("a directory", x.make(0, 0, 1, true), 1);
        due("in it", x.make(0, 1, 2, false), 2);
        due("dirty", x.cached(0, 0, 3) + x.cached(0, 1, 3) + x.cached(0, 2, 3), 3);
        due("found", x.find(0, 1, 2), 2);
        due("not at the server", x.copy(0, 1, 0), NONE);
        due("others go on with the next number", x.make(1, 0, 1, false), 3);
        due("what is alone elsewhere is gone", x.read(1, 2), GONE);
        due("and has its kind", x.read(1, 1), WRONG);
        due("told(0)", x.told(0), 3);
    }

    private static void remove() {
        ReplicaFiles x = fresh("10 remove", 2);
        x.make(0, 0, 1, false);
        x.make(0, 0, 2, false);
        x.write(0, 2, 5, 5);
        due("both", x.remove(1, 0, 1), 2);
        due("dropped", x.copy(0, 1, 0), NONE);
        due("its entry is gone", x.entry(0, 0, 0, 2), 1);
        due("not there", x.remove(1, 0, 1), NONE);
        due("the root", x.remove(1, 0, 0), NONE);
        due("never made", x.remove(1, 0, 30), NONE);
        due("a file as directory", x.remove(1, 2, 1), WRONG);
        due("no directory", x.remove(1, 30, 1), NONE);
        due("out of the cache", x.cached(1, 1, 0), NONE);
        onlyNear(x, 2, 0, 1);
        x.write(0, 2, 6, 5);
        onlyNear(x, 2, 0, 0);
        x.write(0, 2, 7, 5);
        due("what getting the object answers", x.remove(1, 0, 2), APART);
        due("nothing is done", x.copy(0, 0, 4), 1);
        onlyNear(x, 2, 0, 0);
        due("one", x.remove(0, 0, 2), 1);
        due("there at the other one", x.copy(1, 0, 4), 1);
        due("dropped", x.copy(0, 2, 0), NONE);
        due("acts: 4 of make, 2 + 1 + 1 of write, 2 + 1", x.told(1), 11);
        outOfBounds("client -1", () -> x.remove(-1, 0, 1));
        outOfBounds("directory 48", () -> x.remove(0, 48, 1));
        outOfBounds("object 48", () -> x.remove(0, 0, 48));
        outOfBounds("object -1", () -> x.remove(0, 0, -1));
    }

    private static void removeDirectory() {
        ReplicaFiles x = fresh("10 remove a directory", 2);
        x.make(0, 0, 1, true);
        x.make(0, 1, 2, false);
        due("some are there", x.remove(0, 0, 1), FULL);
        onlyNear(x, 2, 1, 1);
        x.write(1, 2, 8, 0);
        onlyNear(x, 2, 0, 0);
        due("the file, at one", x.remove(0, 1, 2), 1);
        due("the directory, at one", x.remove(0, 0, 1), 1);
        due("dropped there", x.copy(0, 1, 0), NONE);
        due("and kept here", x.copy(1, 1, 4), 1);
        x = fresh("10 remove a directory that keeps what was not known", 2);
        x.make(0, 0, 1, true);
        x.make(0, 1, 2, false);
        onlyNear(x, 2, 1, 1);
        x.write(1, 2, 8, 0);
        due("got with the greatest", x.read(0, 2), 8);
        due("by one that knows it, at both", x.remove(0, 1, 2), 2);
        due("the old one is at most that", x.copy(0, 2, 0), NONE);
        due("dropped", x.copy(1, 2, 0), NONE);
        due("empty now", x.remove(0, 0, 1), 2);
        due("dropped", x.copy(1, 1, 0), NONE);
    }

    private static void removeAlone() {
        ReplicaFiles x = fresh("10 remove alone", 1);
        x.make(0, 0, 1, false);
        x.make(0, 0, 2, true);
        onlyNear(x, 1, 0);
        x.write(0, 1, 5, 1);
        due("alone", x.remove(0, 0, 1), 0);
        due("its write is out", x.record(0, 0, 0), 2);
        due("one record", x.record(0, 1, 0), NONE);
        due("goes", x.cached(0, 1, 0), NONE);
        due("the directory is dirty", x.cached(0, 0, 3), 1);
        due("again", x.remove(0, 0, 1), NONE);
        x.make(0, 2, 1, false);
        due("full", x.remove(0, 0, 2), FULL);
        x.write(0, 3, 1, 1);
        due("what was made", x.remove(0, 2, 3), 0);
        due("leaves one record", x.record(0, 1, 0), NONE);
        due("its entry goes", x.cached(0, 2, 0), 0);
        due("still dirty", x.cached(0, 2, 3), 1);
        due("at last the directory", x.remove(0, 0, 2), 0);
        due("two records", x.record(0, 1, 1), 2);
        onlyNear(x, 1, 0, 0);
        due("handed in", x.handIn(0), 2);
        due("both gone", x.copy(0, 0, 4), 0);
        due("dropped", x.copy(0, 2, 0), NONE);

        x = fresh("10 remove alone, nothing left", 1);
        x.find(0, 0, 0);
        onlyNear(x, 1, 0);
        x.make(0, 0, 1, false);
        x.write(0, 1, 1, 1);
        x.remove(0, 0, 1);
        due("no record", x.record(0, 0, 0), NONE);
        due("nothing is dirty", x.cached(0, 0, 3), 0);
        onlyNear(x, 1, 0, 0);
        due("not alone any more", x.read(0, 1), GONE);
        due("nothing to hand in", x.handIn(0), 0);

        x = fresh("10 remove alone, miss", 1);
        x.make(1, 0, 1, false);
        x.find(0, 0, 0);
        onlyNear(x, 1, 0);
        due("the object is not kept", x.remove(0, 0, 1), MISS);
    }

    private static void logIsFull() {
        ReplicaFiles x = fresh("5 the log", 1);
        for (int i = 0; i < 3; i++) {
            x.make(0, 0, i, false);
        }
        onlyNear(x, 1, 0);
        due("write", x.write(0, 1, 1, 0), 0);
        for (int i = 0; i < 11; i++) {
            due("make", x.make(0, 0, 0, false), 4 + i);
        }
        due("the 12th", x.record(0, 11, 0), 1);
        due("a 13th make", x.make(0, 0, 0, false), FULL);
        due("a 13th write", x.write(0, 2, 1, 0), FULL);
        due("nothing is done", x.cached(0, 2, 3), 0);
        due("a 13th remove", x.remove(0, 0, 2), FULL);
        due("nothing is done", x.cached(0, 2, 0), 0);
        due("a write that is in the log", x.write(0, 1, 2, 0), 0);
        due("a removal in place of its write", x.remove(0, 0, 1), 0);
        due("as the last record", x.record(0, 11, 0), 2);
        due("no 13th", x.record(0, 12, 0), NONE);
        due("a removal of what was made", x.remove(0, 0, 4), 0);
        due("no 12th", x.record(0, 11, 0), NONE);
        due("numbers go on", x.make(0, 0, 0, false), 15);
    }

    private static void noRoomAlone() {
        ReplicaFiles x = fresh("3 room, alone", 1);
        for (int i = 0; i < 4; i++) {
            x.make(0, 0, i, false);
        }
        onlyNear(x, 1, 0);
        x.write(0, 1, 1, 6);
        x.write(0, 2, 1, 6);
        due("the directory goes", x.write(0, 3, 1, 6), 0);
        due("2 + 7 + 7 + 7 + 1 is just 24", x.told(6), 0);
        due("4 grows: the directory goes", x.write(0, 4, 1, 2), 0);
        due("it went", x.cached(0, 0, 0), NONE);
        due("no room", x.write(0, 4, 2, 4), NO_ROOM);
        due("nothing is done", x.read(0, 4), 1);
        due("nothing went", x.told(6), 1);
        due("smaller is fine", x.write(0, 4, 3, 1), 0);

        x = fresh("3 room, making alone", 1);
        for (int i = 0; i < 3; i++) {
            x.make(0, 0, i, false);
        }
        onlyNear(x, 1, 0);
        x.write(0, 1, 1, 6);
        x.write(0, 2, 1, 6);
        x.write(0, 3, 1, 6);
        due("the last place", x.make(0, 0, 1, false), 4);
        due("no room", x.make(0, 0, 1, false), NO_ROOM);
        due("no number is used", x.told(0), 4);
        due("no record", x.record(0, 4, 0), NONE);
    }

    private static void handInWrites() {
        ReplicaFiles x = fresh("11 handIn, writes", 3);
        x.make(0, 0, 1, false);
        x.make(0, 0, 2, false);
        x.read(1, 1);
        due("nothing", x.handIn(0), 0);
        onlyNear(x, 3, 0);
        due("no server", x.handIn(0), IS_ALONE);
        x.write(0, 1, 7, 2);
        x.write(0, 2, 8, 3);
        due("no server", x.handIn(0), IS_ALONE);
        due("the log stays", x.record(0, 1, 1), 2);
        x.remove(1, 0, 2);
        x.lose(2);
        onlyNear(x, 3, 0, 1, 2);
        int acts = x.told(1);
        due("two records", x.handIn(0), 2);
        due("written at those near", x.copy(1, 1, 0), 7);
        due("written at those near", x.copy(2, 1, 1), 2);
        due("not elsewhere", x.copy(0, 1, 0), 0);
        vectorIs(x, 1, 1, -1, 0, 1, 1);
        vectorIs(x, 2, 1, -1, 0, 0, 1);
        due("a second phase was lost", x.told(4), 1);
        due("the removed one's write is lost", x.told(2), 1);
        due("acts", x.told(1), acts + 2);
        due("the others' promises end there", x.cached(1, 1, 2), 1);
        due("the log is empty", x.record(0, 0, 0), NONE);
        due("what was dirty is gone", x.cached(0, 1, 0), NONE);
        outOfBounds("client 4", () -> fresh("11 handIn", 1).handIn(4));
        outOfBounds("client -1", () -> fresh("11 handIn", 1).handIn(-1));
    }

    private static void handInVersions() {
        ReplicaFiles x = fresh("11 handIn, versions", 2);
        x.make(0, 0, 1, false);
        x.make(0, 0, 2, false);
        onlyNear(x, 2, 0);
        x.write(0, 1, 10, 1);
        x.write(1, 1, 20, 2);
        onlyNear(x, 2, 0, 0, 1);
        int acts = x.told(1);
        x.lose(0);
        due("one", x.handIn(0), 1);
        due("two versions", x.copy(0, 1, 2), 2);
        due("the other server is as it was", x.copy(1, 1, 2), 0);
        due("no act", x.told(1), acts);
        due("no second phase", x.told(4), 0);
        due("the first one's value", x.copy(0, 1, 0), 20);
        due("version 0", x.version(0, 1, 0, 0), 20);
        due("version 1", x.version(0, 1, 1, 0), 10);
        due("version 1", x.version(0, 1, 1, 1), 1);
        vectorIs(x, 0, 1, 0, 1, 1, 0, 0, 0, 0);
        vectorIs(x, 0, 1, 1, 0, 0, 1, 0, 0, 0);
        vectorIs(x, 0, 1, -1, 2, 1, 1, 0, 0, 0);
        due("the promise of 0 alone ended", x.cached(1, 1, 2), 2);
        due("conflict", x.read(0, 1), CONFLICT);
        for (int i = 2; i < 8; i++) {
            onlyNear(x, 2, 0, 1);
            due("from the other server", x.read(0, 1), 20);
            onlyNear(x, 2, 0);
            due("alone", x.write(0, 1, 10 * i, 0), 0);
            onlyNear(x, 2, 0, 0, 1);
            due("handed in", x.handIn(0), 1);
            due("versions", x.copy(0, 1, 2), Math.min(6, i + 1));
            due("lost", x.told(2), i < 6 ? 0 : i - 5);
            if (i < 6) {
                vectorIs(x, 0, 1, i, 1, 1, i, 0, 0, 0);
                vectorIs(x, 0, 1, -1, i + 1, 1, i, 0, 0, 0);
            }
        }
        vectorIs(x, 0, 1, -1, 6, 1, 5, 0, 0, 0);
        due("of one client the last that knew all", x.meet(0), 2);
        due("it is", x.read(3, 1), 50);
        vectorIs(x, 1, 1, -1, 1, 1, 5, 0, 0, 0);

        part = "11 handIn, versions of one client are counted over all files";
        due("behind what was lost", x.read(0, 2), 0);
        onlyNear(x, 2, 0);
        x.write(0, 2, 1, 0);
        x.write(1, 2, 2, 0);
        onlyNear(x, 2, 0, 0, 1);
        x.handIn(0);
        vectorIs(x, 0, 2, 1, 0, 0, 6, 0, 0, 0);
    }

    private static void handInMakes() {
        ReplicaFiles x = fresh("11 handIn, makes", 2);
        x.make(0, 0, 1, true);
        x.find(1, 1, 0);
        x.find(1, 0, 0);
        onlyNear(x, 2, 0);
        due("in a directory", x.make(0, 1, 3, true), 2);
        due("deeper", x.make(0, 2, 4, false), 3);
        due("write", x.write(0, 3, 5, 1), 0);
        x.lose(1);
        onlyNear(x, 2, 0, 0, 1);
        due("three", x.handIn(0), 3);
        vectorIs(x, 0, 1, -1, 1, 1);
        vectorIs(x, 1, 1, -1, 0, 1);
        vectorIs(x, 1, 2, -1, 1, 1);
        vectorIs(x, 1, 3, -1, 1, 1);
        due("found", x.find(1, 1, 3), 2);
        due("read", x.read(1, 3), 5);
        due("told(4)", x.told(4), 1);

        x = fresh("11 handIn, lost makes", 2);
        x.make(0, 0, 1, true);
        onlyNear(x, 2, 0);
        x.make(0, 1, 2, false);
        x.write(0, 2, 1, 1);
        onlyNear(x, 2, 1, 0);
        due("removed at 0", x.remove(1, 0, 1), 1);
        onlyNear(x, 2, 0, 0, 1);
        due("two", x.handIn(0), 2);
        due("both are lost", x.told(2), 2);
        due("1 has it not, as the least had no copy", x.copy(1, 1, 3), 0);
    }

    private static void handInRemoves() {
        ReplicaFiles x = fresh("11 handIn, removes", 3);
        for (int i = 0; i < 3; i++) {
            x.make(0, 0, i, false);
        }
        x.make(0, 0, 4, true);
        onlyNear(x, 3, 0);
        for (int i = 1; i <= 4; i++) {
            due("remove", x.remove(0, 0, i), 0);
        }
        x.write(1, 1, 5, 0);
        x.remove(1, 0, 2);
        x.make(1, 4, 0, false);
        x.find(1, 0, 0);
        x.read(1, 3);
        onlyNear(x, 3, 0, 0, 1, 2);
        due("four", x.handIn(0), 4);
        due("refused: written since, and a directory with one in it", x.told(3), 2);
        due("two are there", x.copy(1, 0, 4), 2);
        due("the third is gone", x.entry(1, 0, 2, 2), 1);
        due("and dropped", x.copy(2, 3, 0), NONE);
        vectorIs(x, 2, 0, -1, 6, 6, 6);
        due("the others' promises end", x.cached(1, 0, 2), 0);
        due("the others' promises end", x.cached(1, 3, 2), 0);

        x = fresh("11 handIn, a removal at those with the same directory", 2);
        x.make(0, 0, 1, false);
        onlyNear(x, 2, 0);
        x.remove(0, 0, 1);
        onlyNear(x, 2, 1, 1);
        x.make(1, 0, 2, false);
        onlyNear(x, 2, 0, 0, 1);
        due("one", x.handIn(0), 1);
        due("gone at 0", x.copy(0, 0, 4), 0);
        due("not at 1, whose directory is another", x.copy(1, 0, 4), 2);
        vectorIs(x, 0, 0, -1, 2, 1);
        vectorIs(x, 1, 0, -1, 1, 2);
        due("then they meet", x.meet(0), 2 + 1 + 1);
        due("gone for good", x.copy(1, 1, 0), NONE);
    }

    private static void walk() {
        ReplicaFiles x = fresh("12 walk", 2);
        x.make(0, 0, 1, false);
        x.make(0, 0, 2, true);
        x.priority(1, 0, 1);
        x.priority(1, 1, 9);
        x.priority(1, 2, 1);
        x.priority(1, 40, 9);
        due("three", x.walk(1), 3);
        due("kept", x.cached(1, 1, 4), 1);
        due("kept", x.cached(1, 0, 4), 1);
        due("none that is not made", x.cached(1, 40, 0), NONE);
        due("came", x.told(5), 1 + 3);
        due("again", x.walk(1), 3);
        due("nothing came", x.told(5), 4);
        x.write(0, 1, 5, 5);
        due("again", x.walk(1), 3);
        due("one came", x.told(5), 5);
        onlyNear(x, 2, 0, 0);
        x.write(0, 1, 6, 5);
        due("one server has an old one: not good", x.walk(1), 2);
        due("but the greatest", x.cached(1, 1, 0), 6);
        due("without priorities", x.walk(3), 0);
        onlyNear(x, 2, 1);
        due("alone", x.walk(1), IS_ALONE);
        due("write", x.write(1, 1, 1, 1), 0);
        onlyNear(x, 2, 1, 0, 1);
        due("alone by its log", x.walk(1), IS_ALONE);
        outOfBounds("client 4", () -> fresh("12 walk", 1).walk(4));
        outOfBounds("client -1", () -> fresh("12 walk", 1).walk(-1));
    }

    private static void walkMakesRoomByLesser() {
        ReplicaFiles x = fresh("12 walk, room", 1);
        for (int i = 1; i <= 5; i++) {
            x.make(0, 0, i, false);
            x.write(0, i, i, 6);
        }
        x.read(1, 1);
        x.read(1, 2);
        x.read(1, 3);
        int went = x.told(6);
        x.priority(1, 1, 5);
        x.priority(1, 4, 5);
        x.priority(1, 5, 3);
        due("1 and 4, then 5", x.walk(1), 3);
        due("2 was used longest ago", x.cached(1, 2, 0), NONE);
        due("3 was the next", x.cached(1, 3, 0), NONE);
        due("two went", x.told(6), went + 2);
        x.priority(1, 2, 3);
        due("2 finds nothing lesser", x.walk(1), 3);
        due("so it is not kept", x.cached(1, 2, 0), NONE);
        x.priority(1, 2, 4);
        due("now 5 goes for it, and finds no room", x.walk(1), 3);
        due("2 is kept", x.cached(1, 2, 0), 2);
        due("5 is not", x.cached(1, 5, 0), NONE);
        due("one more went", x.told(6), went + 3);
        x.write(0, 1, 1, 1);
        x.write(0, 2, 2, 1);
        x.write(0, 4, 4, 1);
        x.priority(1, 3, 2);
        due("all five: 2 + 2 + 2 + 7 + 7", x.walk(1), 5);
        x.write(0, 1, 1, 6);
        x.write(0, 2, 2, 6);
        x.write(0, 4, 4, 6);
        went = x.told(6);
        due("1 and 4 grow: 3 goes; 2 grows: 5 goes; 5 and 3 find no room", x.walk(1), 3);
        due("two went", x.told(6), went + 2);
        due("3 went", x.cached(1, 3, 0), NONE);
        due("5 went", x.cached(1, 5, 0), NONE);
    }

    private static void meetDirectories() {
        ReplicaFiles x = fresh("13 meet, directories", 2);
        x.make(0, 0, 1, true);
        due("nothing to do", x.meet(0), 0);
        onlyNear(x, 2, 0, 0);
        onlyNear(x, 2, 1, 1);
        x.make(0, 1, 5, false);
        x.make(1, 1, 5, false);
        x.make(1, 0, 6, true);
        x.find(2, 0, 6);
        x.find(3, 0, 6);
        due("root 2, directory 2, each file 1, new directory 2", x.meet(1), 2 + 2 + 1 + 1 + 2);
        for (int s = 0; s < 2; s++) {
            vectorIs(x, s, 0, -1, 2, 3);
            vectorIs(x, s, 1, -1, 2, 2);
            vectorIs(x, s, 2, -1, 0, 0);
            vectorIs(x, s, 4, -1, 1, 1);
            due("entry 0", x.entry(s, 1, 0, 0), 2);
            due("entry 1", x.entry(s, 1, 1, 0), 3);
        }
        due("alike", x.told(7), 1);
        due("promises end", x.cached(2, 0, 2), 0);
        due("again nothing", x.meet(0), 0);
        x.server(0, false);
        due("down", x.meet(0), NONE);
        due("alone", x.meet(1), 0);
        outOfBounds("no such server", () -> fresh("13 meet", 2).meet(2));
        outOfBounds("no such server", () -> fresh("13 meet", 2).meet(-1));
    }

    private static void meetFiles() {
        ReplicaFiles x = fresh("13 meet, files", 3);
        x.make(0, 0, 1, false);
        x.read(1, 1);
        onlyNear(x, 3, 0, 0);
        x.write(0, 1, 5, 1);
        onlyNear(x, 3, 0, 0, 1);
        x.write(0, 1, 6, 1);
        due("one that all are at most: two get it", x.meet(2), 2);
        for (int s = 0; s < 3; s++) {
            vectorIs(x, s, 1, -1, 2, 0, 0);
            due("value", x.copy(s, 1, 0), 6);
            due("no versions", x.copy(s, 1, 2), 0);
        }
        x.read(1, 1);
        x.read(3, 1);
        onlyNear(x, 3, 0, 2);
        x.write(0, 1, 7, 1);
        onlyNear(x, 3, 1, 1);
        x.write(1, 1, 8, 2);
        x.link(0, 2, false);
        due("0 and 1: one change", x.meet(0), 1);
        due("0's promise ended, as those of 1 and 2 before", x.cached(3, 1, 2), 0);
        x.link(0, 2, true);
        due("conflict: all three", x.meet(0), 3);
        for (int s = 0; s < 3; s++) {
            due("versions", x.copy(s, 1, 2), 2);
            due("by servers", x.version(s, 1, 0, 0), 8);
            due("by servers", x.version(s, 1, 1, 0), 7);
            due("the first one's", x.copy(s, 1, 1), 2);
            vectorIs(x, s, 1, 0, 2, 1, 0);
            vectorIs(x, s, 1, 1, 2, 0, 1);
            vectorIs(x, s, 1, -1, 3, 2, 2);
        }
        due("stays so", x.meet(1), 0);
        due("alike", x.told(7), 1);
        due("gone for none", x.read(0, 1), CONFLICT);
    }

    private static void meetGone() {
        ReplicaFiles x = fresh("13 meet, gone", 2);
        x.make(0, 0, 1, false);
        x.make(0, 0, 2, false);
        onlyNear(x, 2, 0, 0);
        onlyNear(x, 2, 1, 1);
        x.write(1, 2, 9, 1);
        x.find(2, 0, 1);
        x.read(2, 1);
        x.remove(0, 0, 1);
        x.remove(0, 0, 2);
        due("before", x.copy(0, 0, 4), 0);
        due("root 2; 1 dropped at 1; root 2 for 2; 2 made at 0", x.meet(0), 2 + 1 + 2 + 1);
        due("1 is gone", x.copy(1, 1, 0), NONE);
        due("and its promise", x.cached(2, 1, 2), 0);
        due("2 is there again", x.entry(0, 0, 1, 2), 0);
        due("with its value", x.copy(0, 2, 0), 9);
        vectorIs(x, 0, 2, -1, 0, 1);
        vectorIs(x, 0, 0, -1, 6, 4);
        vectorIs(x, 1, 0, -1, 6, 4);
        due("again nothing", x.meet(1), 0);
        onlyNear(x, 2, 0, 0, 1);
        due("removed by one that knows", x.remove(0, 0, 2), 2);
        due("nothing", x.meet(1), 0);
        due("gone", x.copy(1, 0, 4), 0);
    }

    private static void meetGoneDirectory() {
        ReplicaFiles x = fresh("13 meet, a gone directory with what is in it", 2);
        x.make(0, 0, 1, true);
        x.make(0, 1, 2, true);
        x.make(0, 2, 3, false);
        onlyNear(x, 2, 0, 0);
        x.remove(0, 2, 3);
        x.remove(0, 1, 2);
        x.remove(0, 0, 1);
        due("at 0 nothing is left", x.copy(0, 1, 0), NONE);
        due("there by 1 alone: root 2, again 2, directory 2, the one in it 2, file 1", x.meet(0), 2 + 2 + 2 + 2 + 1);
        due("there again", x.copy(0, 1, 4), 1);
        due("there again", x.copy(0, 2, 4), 1);
        due("alike", x.told(7), 1);

        x = fresh("13 meet, a gone directory is dropped with what is gone in it", 3);
        x.make(0, 0, 1, true);
        x.make(0, 1, 2, false);
        x.read(3, 2);
        x.find(3, 1, 2);
        onlyNear(x, 3, 3);
        due("alone", x.remove(3, 1, 2), 0);
        onlyNear(x, 3, 1, 1);
        due("written at 1", x.write(1, 2, 7, 1), 1);
        onlyNear(x, 3, 2, 1);
        due("who knows that", x.read(2, 2), 7);
        due("who knows that", x.find(2, 1, 2), 2);
        onlyNear(x, 3, 2);
        due("alone", x.remove(2, 1, 2), 0);
        onlyNear(x, 3, 3, 0, 1);
        due("removed at 0 and 1", x.handIn(3), 1);
        due("1 keeps what was not known", x.copy(1, 2, 0), 7);
        due("but it is gone there", x.entry(1, 1, 0, 2), 1);
        onlyNear(x, 3, 2, 2);
        due("removed at 2", x.handIn(2), 1);
        due("dropped at 2", x.copy(2, 2, 0), NONE);
        x.link(0, 1, false);
        due("0 and 2: the directory", x.meet(0), 2);
        vectorIs(x, 0, 1, -1, 3, 2, 3);
        onlyNear(x, 3, 0, 0);
        due("the directory, at 0", x.remove(0, 0, 1), 1);
        x.link(0, 1, true);
        due("root 3, directory 2, file 1", x.meet(0), 3 + 2 + 1);
        due("dropped", x.copy(1, 1, 0), NONE);
        due("dropped", x.copy(1, 2, 0), NONE);
        due("dropped", x.copy(2, 1, 0), NONE);
        due("alike", x.told(7), 1);

        x = fresh("13 meet, a gone directory with something new in it", 2);
        x.make(0, 0, 1, true);
        onlyNear(x, 2, 0, 0);
        onlyNear(x, 2, 1, 1);
        x.make(1, 1, 2, false);
        x.remove(0, 0, 1);
        due("root 2, root 2 again, directory 2, file 1", x.meet(0), 2 + 2 + 2 + 1);
        due("there again", x.copy(0, 0, 4), 1);
        due("with what is in it", x.copy(0, 1, 4), 1);
    }

    private static void meetThereAgainForNested() {
        ReplicaFiles x = fresh("13 meet, a gone directory whose gone file was written", 3);
        x.make(0, 0, 1, true);
        x.make(0, 1, 2, false);
        onlyNear(x, 3, 0, 0);
        onlyNear(x, 3, 1, 1);
        x.write(1, 2, 7, 1);
        x.remove(0, 1, 2);
        x.remove(0, 0, 1);
        x.link(0, 1, false);
        due("1 and 2: the file", x.meet(1), 1);
        x.link(0, 1, true);
        x.link(0, 2, false);
        x.link(1, 2, false);
        due("the root, again, the directory; the file is there alone by 1", x.meet(0), 2 + 2 + 2 + 1);
        due("there again", x.copy(0, 1, 4), 1);
        due("value", x.copy(0, 2, 0), 7);

        x = fresh("13 meet, gone by all but written", 2);
        x.make(0, 0, 1, true);
        x.make(0, 1, 2, false);
        x.read(2, 2);
        x.find(2, 1, 2);
        x.find(2, 0, 1);
        onlyNear(x, 2, 0, 0);
        onlyNear(x, 2, 1, 1);
        x.write(1, 2, 7, 1);
        x.remove(1, 1, 2);
        x.remove(0, 1, 2);
        x.remove(0, 0, 1);
        due("1 dropped its own", x.copy(1, 2, 0), NONE);
        due("the directory at 1 is not at most that of 0", x.copy(1, 1, 3), 1);
        due("root 2, root 2, directory 2; the file has no copy", x.meet(0), 2 + 2 + 2);
        due("an empty directory", x.copy(0, 1, 4), 0);
        due("one gone entry", x.copy(0, 1, 3), 1);
    }

    private static void meetWithinGroup() {
        ReplicaFiles x = fresh("13 meet, the group", 4);
        x.make(0, 0, 1, false);
        onlyNear(x, 4, 0, 0);
        x.write(0, 1, 5, 0);
        x.link(0, 2, false);
        x.server(3, false);
        due("0 with 1", x.meet(0), 1);
        due("not 2", x.copy(2, 1, 0), 0);
        due("not 3", x.copy(3, 1, 0), 0);
        due("2 with 1", x.meet(2), 1);
        due("2", x.copy(2, 1, 0), 5);
        due("those that are up are alike", x.told(7), 1);
        x.server(3, true);
        due("now not", x.told(7), 0);
        due("3 with all", x.meet(3), 1);
        due("now", x.told(7), 1);
    }

    private static void meetLosesVersions() {
        ReplicaFiles x = fresh("13 meet, more than six", 4);
        x.make(0, 0, 1, false);
        for (int c = 1; c < 4; c++) {
            x.read(c, 1);
            onlyNear(x, 4, c);
            x.write(c, 1, 10 + c, 0);
        }
        for (int s = 0; s < 4; s++) {
            onlyNear(x, 4, 0, s);
            due("write at one", x.write(0, 1, 100 + s, 0), 1);
        }
        for (int c = 1; c < 4; c++) {
            onlyNear(x, 4, c, 0);
            due("hand in", x.handIn(c), 1);
        }
        due("four at 0", x.copy(0, 1, 2), 4);
        due("all four", x.meet(2), 4);
        due("six", x.copy(3, 1, 2), 6);
        due("one is lost", x.told(2), 1);
        int[] values = {100, 11, 12, 13, 101, 102};
        for (int i = 0; i < 6; i++) {
            due("version " + i, x.version(3, 1, i, 0), values[i]);
        }
        vectorIs(x, 3, 1, -1, 5, 2, 2, 2, 0, 1, 1, 1);
        due("then it stays", x.meet(0), 0);
        due("then it stays", x.told(2), 1);
    }

    private static void repair() {
        ReplicaFiles x = fresh("14 repair", 3);
        x.make(0, 0, 1, false);
        onlyNear(x, 3, 0, 0);
        onlyNear(x, 3, 1, 1);
        x.write(0, 1, 5, 1);
        x.write(1, 1, 6, 2);
        due("no conflict yet", x.repair(0, 1, 0), NONE);
        x.meet(0);
        due("never made", x.repair(0, 9, 0), NONE);
        due("directory", x.repair(0, 0, 0), WRONG);
        due("no such version", x.repair(0, 1, 2), NONE);
        due("no such version", x.repair(0, 1, -1), NONE);
        onlyNear(x, 3, 0);
        due("alone", x.repair(0, 1, 1), IS_ALONE);
        due("alone, never made", x.repair(0, 9, 1), NONE);
        due("alone, directory", x.repair(0, 0, 1), WRONG);
        onlyNear(x, 3, 0, 1, 2);
        x.lose(2);
        due("two", x.repair(0, 1, 1), 2);
        due("value", x.copy(1, 1, 0), 6);
        due("size", x.copy(2, 1, 1), 2);
        due("no versions", x.copy(1, 1, 2), 0);
        due("0 has them", x.copy(0, 1, 2), 2);
        vectorIs(x, 0, 1, -1, 2, 2, 1);
        vectorIs(x, 1, 1, -1, 2, 3, 2);
        vectorIs(x, 2, 1, -1, 2, 2, 2);
        due("a second phase was lost", x.told(4), 1);
        due("it is no act", x.told(1), 3 + 2);
        due("read", x.read(0, 1), 6);
        onlyNear(x, 3, 0, 0, 1, 2);
        due("the least in conflict alone", x.repair(0, 1, 0), 1);
        vectorIs(x, 0, 1, -1, 3, 2, 1);
        due("none is left", x.repair(0, 1, 0), NONE);
        due("apart again", x.read(0, 1), APART);
        outOfBounds("client 4", () -> fresh("14 repair", 1).repair(4, 0, 0));
        outOfBounds("object 48", () -> fresh("14 repair", 1).repair(0, 48, 0));
        outOfBounds("object -1", () -> fresh("14 repair", 1).repair(0, -1, 0));
    }

    private static void copyAndVector() {
        ReplicaFiles x = fresh("15 copy, 16 vector, 17 version", 2);
        x.make(0, 0, 1, false);
        x.make(0, 0, 2, true);
        x.write(0, 1, 44, 3);
        x.remove(0, 0, 2);
        long[] file = {44, 3, 0, 0, 0};
        long[] root = {0, 0, 0, 2, 1};
        for (int what = 0; what < 5; what++) {
            due("file " + what, x.copy(1, 1, what), file[what]);
            due("root " + what, x.copy(1, 0, what), root[what]);
            due("gone " + what, x.copy(1, 2, what), NONE);
            due("never made " + what, x.copy(1, 47, what), NONE);
        }
        vectorIs(x, 1, 0, -1, 3, 3, 0, 0, 0, 0);
        due("no copy", x.vector(1, 2, -1, 0), NONE);
        due("no version", x.vector(1, 1, 0, 0), NONE);
        due("no version", x.vector(1, 1, -2, 0), NONE);
        due("no version", x.vector(1, 1, Integer.MAX_VALUE, 0), NONE);
        due("no version", x.version(1, 1, 0, 0), NONE);
        due("no version", x.version(1, 1, -1, 0), NONE);
        due("no version", x.version(1, 47, Integer.MIN_VALUE, 1), NONE);
        outOfBounds("copy what 5", () -> x.copy(0, 0, 5));
        outOfBounds("copy what -1", () -> x.copy(0, 0, -1));
        outOfBounds("copy server", () -> x.copy(2, 0, 0));
        outOfBounds("copy object", () -> x.copy(0, 48, 0));
        outOfBounds("vector k 6", () -> x.vector(0, 0, -1, 6));
        outOfBounds("vector k -1", () -> x.vector(0, 0, -1, -1));
        outOfBounds("vector k of no version", () -> x.vector(0, 47, 3, 6));
        outOfBounds("vector server", () -> x.vector(-1, 0, -1, 0));
        outOfBounds("vector object", () -> x.vector(0, -1, -1, 0));
        outOfBounds("version what 2", () -> x.version(0, 1, 0, 2));
        outOfBounds("version what -1", () -> x.version(0, 1, 0, -1));
        outOfBounds("version server", () -> x.version(2, 1, 0, 0));
        outOfBounds("version object", () -> x.version(0, 48, 0, 0));
    }

    private static void entry() {
        ReplicaFiles x = fresh("18 entry", 2);
        x.make(0, 0, 9, true);
        x.make(0, 1, 8, false);
        x.make(0, 0, 7, false);
        x.remove(0, 0, 3);
        long[][] due = {{1, 9, 0}, {3, 7, 1}, {NONE, NONE, NONE}};
        for (int i = 0; i < 3; i++) {
            for (int what = 0; what < 3; what++) {
                due("entry " + i + " " + what, x.entry(1, 0, i, what), due[i][what]);
            }
        }
        due("in the directory", x.entry(0, 1, 0, 1), 8);
        due("of a file", x.entry(0, 2, 0, 0), NONE);
        due("of none", x.entry(0, 40, 0, 0), NONE);
        due("i -1", x.entry(0, 0, -1, 0), NONE);
        due("i greatest", x.entry(0, 0, Integer.MAX_VALUE, 0), NONE);
        outOfBounds("what 3", () -> x.entry(0, 0, 0, 3));
        outOfBounds("what -1", () -> x.entry(0, 0, 0, -1));
        outOfBounds("server 2", () -> x.entry(2, 0, 0, 0));
        outOfBounds("object 48", () -> x.entry(0, 48, 0, 0));
    }

    private static void cached() {
        ReplicaFiles x = fresh("19 cached", 2);
        x.make(0, 0, 1, false);
        x.make(0, 0, 2, false);
        x.write(0, 1, -3, 4);
        x.remove(0, 0, 2);
        long[] root = {1, 0, 3, 0, 1};
        long[] file = {-3, 4, 3, 0, 1};
        for (int what = 0; what < 5; what++) {
            due("root " + what, x.cached(0, 0, what), root[what]);
            due("file " + what, x.cached(0, 1, what), file[what]);
            due("of another client", x.cached(1, 0, what), NONE);
            due("gone", x.cached(0, 2, what), NONE);
        }
        onlyNear(x, 2, 0);
        due("no promises", x.cached(0, 1, 2), 0);
        due("not good without a server", x.cached(0, 1, 4), 0);
        x.write(0, 1, 7, 6);
        long[] dirty = {7, 6, 0, 1, 0};
        for (int what = 0; what < 5; what++) {
            due("dirty " + what, x.cached(0, 1, what), dirty[what]);
        }
        outOfBounds("what 5", () -> x.cached(0, 0, 5));
        outOfBounds("what -1", () -> x.cached(0, 0, -1));
        outOfBounds("client 4", () -> x.cached(4, 0, 0));
        outOfBounds("object 48", () -> x.cached(0, 48, 0));
    }

    private static void record() {
        ReplicaFiles x = fresh("20 record", 1);
        x.make(2, 0, 1, false);
        x.make(2, 0, 2, false);
        onlyNear(x, 1, 2);
        x.write(2, 1, 1, 1);
        x.make(2, 0, 3, false);
        x.remove(2, 0, 2);
        long[][] due = {{0, 1, -1}, {1, 3, 0}, {2, 2, 0}, {NONE, NONE, NONE}};
        for (int i = 0; i < 4; i++) {
            for (int what = 0; what < 3; what++) {
                due("record " + i + " " + what, x.record(2, i, what), due[i][what]);
                due("of another client", x.record(0, i, what), NONE);
            }
        }
        due("i -1", x.record(2, -1, 0), NONE);
        due("i greatest", x.record(2, Integer.MAX_VALUE, 0), NONE);
        outOfBounds("what 3", () -> x.record(2, 0, 3));
        outOfBounds("what -1", () -> x.record(2, 0, -1));
        outOfBounds("client 4", () -> x.record(4, 0, 0));
        outOfBounds("client -1", () -> x.record(-1, 0, 0));
    }

    private static void told() {
        ReplicaFiles x = fresh("21 told", 2);
        for (int what = 0; what < 7; what++) {
            due("first", x.told(what), 0);
        }
        due("alike at first", x.told(7), 1);
        x.make(0, 0, 1, false);
        due("made", x.told(0), 1);
        due("acts", x.told(1), 2);
        due("the directory came, what was made did not", x.told(5), 1);
        x.link(1, 4, false);
        x.write(0, 1, 1, 1);
        due("acts", x.told(1), 3);
        due("not alike", x.told(7), 0);
        x.server(1, false);
        due("those that are up", x.told(7), 1);
        x.server(0, false);
        due("none is up", x.told(7), 1);
        outOfBounds("told(8)", () -> x.told(8));
        outOfBounds("told(-1)", () -> x.told(-1));
    }

    private static void wrongArguments() {
        ReplicaFiles x = fresh("wrong arguments in any state", 4);
        int[] odd = {Integer.MIN_VALUE, -2, -1, 48, 49, Integer.MAX_VALUE};
        for (int o : odd) {
            outOfBounds("find", () -> x.find(0, o, 0));
            outOfBounds("read", () -> x.read(0, o));
            outOfBounds("write", () -> x.write(0, o, 0, 0));
            outOfBounds("make", () -> x.make(0, o, 0, true));
            outOfBounds("remove", () -> x.remove(0, o, 0));
            outOfBounds("remove", () -> x.remove(0, 0, o));
            outOfBounds("repair", () -> x.repair(0, o, 0));
            outOfBounds("client", () -> x.read(o, 0));
            outOfBounds("client", () -> x.walk(o));
            outOfBounds("client", () -> x.handIn(o));
            outOfBounds("client", () -> x.repair(o, 0, 0));
            outOfBounds("server", () -> x.meet(o));
            outOfBounds("server", () -> x.lose(o));
            outOfBounds("server", () -> x.server(o, true));
            outOfBounds("link", () -> x.link(o, 5, true));
            outOfBounds("link", () -> x.link(0, o, true));
            outOfBounds("told", () -> x.told(o));
        }
    }

    private static void argumentsOrder() {
        ReplicaFiles x = fresh("both wrong: an index is looked at first", 1);
        outOfBounds("find", () -> x.find(4, 0, 16));
        outOfBounds("find", () -> x.find(0, 48, 16));
        outOfBounds("write", () -> x.write(0, 48, 0, 7));
        outOfBounds("make", () -> x.make(-1, 0, -1, true));
        outOfBounds("priority", () -> x.priority(0, 48, 10));
        illegal("a size is looked at ahead of the kind", () -> x.write(0, 0, 0, 7));
        illegal("a name is looked at ahead of getting", () -> x.find(0, 30, 16));
    }
}
