import java.util.ArrayList;
import java.util.Arrays;
import java.util.BitSet;
import java.util.Collections;
import java.util.HashMap;
import java.util.LinkedHashSet;
import java.util.List;
import java.util.Map;
import java.util.Random;
import java.util.Set;
import java.util.TreeMap;

/**
 * The first sentence of the Terms, in runs drawn with fixed seeds: "Nothing that was written is lost unseen: it is
 * there, or written over by one that knew it (a client knows what it wrote itself before), or stands as a version of
 * a conflict, or is told as lost." Every write has a value of its own; the test keeps by itself, not by comparing
 * vectors, which writes each state of a file knows, and looks at every state that a call takes away from a server.
 * The sentence does not name removals; here a write that some removal knew may go wherever it still stands (as marks
 * never go back, an object that is there again can have a vector above that of a write that only its removal knew).
 */
public final class NothingLostTest {
    private static final int CALLS = 512;
    private static final Map<String, Integer> seen = new TreeMap<>();
    private static int wrong = 0;

    /** What stands at a server as a copy without versions, or as one version. */
    private record State(int file, long value, List<Long> vector) {
    }

    public static void main(String[] args) {
        int runs = args.length > 0 ? Integer.parseInt(args[0]) : 3000;
        for (int seed = 0; seed < runs && wrong < 10; seed++) {
            new NothingLostTest(seed).run();
        }
        String[] rare = {"written over", "left out by a later one", "dropped by a removal", "dropped in a meeting",
            "told as lost", "a record told as lost", "a version of a conflict", "repaired"};
        for (String what : rare) {
            if (runs >= 3000 && !seen.containsKey(what)) {
                wrong++;
                System.out.println("the runs never came to: " + what);
            }
        }
        if (args.length > 0) {
            System.out.println(seen);
        }
        System.out.println(wrong == 0 ? "nothing lost unseen" : "lost unseen: " + wrong + " wrong");
        if (wrong != 0) {
            System.exit(1);
        }
    }

    private final int seed;
    private final Random random;
    private final int servers;
    private final ReplicaFiles x;
    private final StringBuilder story = new StringBuilder();
    private final boolean[] up = {true, true, true, true};
    private final boolean[][] linked = new boolean[4][8];
    private final List<Integer> parents = new ArrayList<>(List.of(-1));
    private final List<Boolean> isDirectory = new ArrayList<>(List.of(true));
    private final int mostMade;
    private final int excursions;
    /** Some runs bring servers together at their end alone: more versions than six come together then. */
    private final boolean meetsOften;
    private int nextValue = 1;
    private int calls = 0;

    /** Which writes a state knows, itself among them. */
    private final Map<State, BitSet> known = new HashMap<>();
    /** Which writes a client's kept copy of a file knows, which are its own, which its removal knew. */
    private final BitSet[][] keptKnows = new BitSet[4][48];
    private final BitSet[][] ownWrites = new BitSet[4][48];
    private final BitSet[][] removalKnows = new BitSet[4][48];

    /** Which writes of a file some removal knew: these were seen to go, wherever they still stand. */
    private final BitSet[] removalsKnow = new BitSet[48];

    private List<List<Set<State>>> before = new ArrayList<>();
    private int lostBefore = 0;

    private NothingLostTest(int seed) {
        this.seed = seed;
        random = new Random(seed * 104729L + 7);
        servers = 2 + random.nextInt(3);
        x = new ReplicaFiles(servers);
        mostMade = 1 + random.nextInt(6);
        excursions = random.nextInt(3) * 20;
        meetsOften = random.nextInt(3) > 0;
        for (boolean[] row : linked) {
            Arrays.fill(row, true);
        }
        for (int c = 0; c < 4; c++) {
            for (int o = 0; o < 48; o++) {
                ownWrites[c][o] = new BitSet();
            }
        }
    }

    private void run() {
        int errors = wrong;
        while (calls < CALLS - 40 && wrong == errors) {
            step(random.nextInt(4));
        }
        if (wrong == errors) {
            meetAll();
        }
        if (wrong > errors) {
            System.out.println("seed " + seed + ", " + servers + " servers: " + story);
        }
    }

    private void meetAll() {
        for (int s = 0; s < servers; s++) {
            tell("server(" + s + ", true)", x.server(s, true) ? 1 : 0);
            up[s] = true;
            for (int t = 0; t < s; t++) {
                tell("link(" + s + ", " + t + ", true)", x.link(s, t, true) ? 1 : 0);
                linked[s][t] = true;
                linked[t][s] = true;
            }
        }
        meet(0);
        if (x.told(7) != 1) {
            fail("they met, and are not alike");
        }
    }

    private void step(int c) {
        int dice = random.nextInt(100 + excursions);
        if (dice >= 100) {
            excursion(c, someFile());
        } else if (dice < 8) {
            make(c);
        } else if (dice < 30) {
            turn(c);
        } else if (dice < 62) {
            write(c, someFile());
        } else if (dice < 72) {
            handIn(c);
        } else if (dice < 78) {
            remove(c, someObject());
        } else if (dice < 90 && meetsOften) {
            meet(random.nextInt(servers));
        } else if (dice < 96 && meetsOften) {
            repair(c, someFile());
        } else {
            int s = random.nextInt(servers);
            tell("lose(" + s + ")", x.lose(s) ? 1 : 0);
        }
    }

    private int someObject() {
        return random.nextInt(parents.size());
    }

    private int someFile() {
        for (int i = 0; i < 20; i++) {
            int o = someObject();
            if (!isDirectory.get(o)) {
                return o;
            }
        }
        return 0;
    }

    private boolean isNear(int s, int c) {
        return up[s] && linked[s][4 + c];
    }

    private int leastNear(int c) {
        for (int s = 0; s < servers; s++) {
            if (isNear(s, c)) {
                return s;
            }
        }
        return -1;
    }

    private boolean isAlone(int c) {
        return leastNear(c) < 0 || x.record(c, 0, 0) != ReplicaFiles.NONE;
    }

    private void tell(String call, long answer) {
        calls++;
        story.append(call).append(" = ").append(answer).append("; ");
    }

    private void fail(String what) {
        wrong++;
        System.out.println("seed " + seed + ": " + what);
    }

    /** A client gets a file near some servers, writes it alone, and hands in near others: versions grow so. */
    private void excursion(int c, int file) {
        link(c, random.nextInt(1 << servers));
        if (file == 0 || isAlone(c) || !read(c, file)) {
            return;
        }
        link(c, 0);
        write(c, file);
        link(c, random.nextInt(1 << servers));
        handIn(c);
    }

    private void link(int c, int bits) {
        for (int s = 0; s < servers; s++) {
            boolean isUp = (bits >> s & 1) != 0;
            tell("link(" + s + ", " + (4 + c) + ", " + isUp + ")", x.link(s, 4 + c, isUp) ? 1 : 0);
            linked[s][4 + c] = isUp;
        }
    }

    private void turn(int c) {
        int s = random.nextInt(servers);
        boolean isUp = random.nextInt(5) < 3;
        int kind = random.nextInt(10);
        if (kind == 0) {
            tell("server(" + s + ", " + isUp + ")", x.server(s, isUp) ? 1 : 0);
            up[s] = isUp;
            return;
        }
        int other = kind < 6 ? 4 + c : random.nextInt(servers);
        if (other != s) {
            tell("link(" + s + ", " + other + ", " + isUp + ")", x.link(s, other, isUp) ? 1 : 0);
            linked[s][other] = isUp;
            if (other < 4) {
                linked[other][s] = isUp;
            }
        }
    }

    private Set<State> statesAt(int s, int file) {
        Set<State> states = new LinkedHashSet<>();
        long versions = x.copy(s, file, 2);
        if (versions == 0) {
            states.add(new State(file, x.copy(s, file, 0), vectorOf(s, file, ReplicaFiles.NO)));
        }
        for (int v = 0; v < versions; v++) {
            states.add(new State(file, x.version(s, file, v, 0), vectorOf(s, file, v)));
        }
        return states;
    }

    private List<Long> vectorOf(int s, int object, int version) {
        List<Long> vector = new ArrayList<>();
        for (int k = 0; k < servers + 4; k++) {
            vector.add(x.vector(s, object, version, k));
        }
        return vector;
    }

    private boolean isGone(int s, int object) {
        int directory = parents.get(object);
        for (int i = 0; i < x.copy(s, directory, 3); i++) {
            if (x.entry(s, directory, i, 0) == object) {
                return x.entry(s, directory, i, 2) == 1;
            }
        }
        return false;
    }

    private void look() {
        before = new ArrayList<>();
        for (int s = 0; s < servers; s++) {
            before.add(new ArrayList<>());
            for (int o = 0; o < parents.size(); o++) {
                before.get(s).add(isDirectory.get(o) ? Set.of() : statesAt(s, o));
            }
        }
        lostBefore = x.told(2);
    }

    /** Looks at what a call took away; fresh has what new states of a file know, by files. */
    private void lookAgain(Map<Integer, BitSet> fresh, boolean isMeeting) {
        Set<State> missing = new LinkedHashSet<>();
        for (int s = 0; s < servers; s++) {
            for (int f = 1; f < before.get(s).size(); f++) {
                if (!isDirectory.get(f)) {
                    lookAgainAt(s, f, fresh, isMeeting, missing);
                }
            }
        }
        int lost = isMeeting ? x.told(2) - lostBefore : 0;
        if (latestOf(missing) > lost) {
            fail("lost unseen (told " + lost + "): " + missing);
        }
        if (lost > 0) {
            saw("told as lost");
        }
    }

    /** How many of some states no other one of them knows: what was written over by a lost one is not lost once more. */
    private int latestOf(Set<State> some) {
        int latest = 0;
        for (State state : some) {
            boolean isLatest = true;
            for (State other : some) {
                isLatest &= state.equals(other) || !isWithin(known.get(state), known.get(other));
            }
            latest += isLatest ? 1 : 0;
        }
        return latest;
    }

    private void lookAgainAt(int s, int f, Map<Integer, BitSet> fresh, boolean isMeeting, Set<State> missing) {
        Set<State> after = statesAt(s, f);
        for (State state : after) {
            if (!known.containsKey(state)) {
                if (!fresh.containsKey(f)) {
                    fail("a state out of nowhere: " + state);
                }
                known.put(state, fresh.getOrDefault(f, new BitSet()));
            }
        }
        if (after.size() > 1) {
            saw("a version of a conflict");
        }
        for (State state : before.get(s).get(f)) {
            if (after.contains(state)) {
                continue;
            }
            boolean isDropped = after.isEmpty();
            boolean isKnown = isDropped && isWithin(known.get(state), with(removalsKnow[f], new BitSet()));
            for (State one : after) {
                isKnown |= isWithin(known.get(state), with(known.get(one), removalsKnow[f]));
            }
            if (!isKnown) {
                missing.add(state);
            }
            saw(!isKnown ? "not known" : isDropped ? isMeeting ? "dropped in a meeting" : "dropped by a removal"
                    : isMeeting ? "left out by a later one" : "written over");
        }
    }

    private void saw(String what) {
        seen.merge(what, 1, Integer::sum);
    }

    private static boolean isWithin(BitSet some, BitSet all) {
        BitSet rest = (BitSet) some.clone();
        rest.andNot(all);
        return rest.isEmpty();
    }

    private static BitSet with(BitSet some, BitSet more) {
        BitSet both = some == null ? new BitSet() : (BitSet) some.clone();
        both.or(more == null ? new BitSet() : more);
        return both;
    }

    private static BitSet with(BitSet some, int value) {
        BitSet both = with(some, new BitSet());
        both.set(value);
        return both;
    }

    /** A client that is not alone gets a file, so that the test knows which state its copy is. */
    private boolean read(int c, int file) {
        long answer = x.read(c, file);
        tell("read(" + c + ", " + file + ")", answer);
        if (answer <= -(1L << 40)) {
            return false;
        }
        for (int s = 0; s < servers; s++) {
            if ((x.cached(c, file, 2) >> s & 1) != 0) {
                keptKnows[c][file] = known.get(statesAt(s, file).iterator().next());
                if (statesAt(s, file).size() != 1 || statesAt(s, file).iterator().next().value() != answer) {
                    fail("a promise for another state: " + file + " by " + s);
                }
            }
        }
        return true;
    }

    private void make(int c) {
        int directory = random.nextInt(3) == 0 ? someObject() : 0;
        if (parents.size() > mostMade || !isDirectory.get(directory)) {
            return;
        }
        boolean isDir = random.nextInt(4) == 0;
        long o = x.make(c, directory, 0, isDir);
        tell("make(" + c + ", " + directory + ", 0, " + isDir + ")", o);
        if (o < 0) {
            return;
        }
        parents.add(directory);
        isDirectory.add(isDir);
        keptKnows[c][(int) o] = new BitSet();
        for (int s = 0; s < servers; s++) {
            known.put(new State((int) o, 0, new ArrayList<>(Collections.nCopies(servers + 4, 0L))), new BitSet());
        }
    }

    private void write(int c, int file) {
        if (file == 0 || !read(c, file)) {
            return;
        }
        int value = nextValue++;
        int size = random.nextInt(3);
        look();
        boolean alone = isAlone(c);
        long answer = x.write(c, file, value, size);
        tell("write(" + c + ", " + file + ", " + value + ", " + size + ")", answer);
        if (answer < 0) {
            return;
        }
        if (alone != (answer == 0)) {
            fail("0 just when it is done alone: " + answer);
        }
        keptKnows[c][file] = with(keptKnows[c][file], value);
        ownWrites[c][file].set(value);
        lookAgain(Map.of(file, keptKnows[c][file]), false);
    }

    private void remove(int c, int object) {
        if (object == 0 || !isDirectory.get(object) && !read(c, object)) {
            return;
        }
        int directory = parents.get(object);
        look();
        long answer = x.remove(c, directory, object);
        tell("remove(" + c + ", " + directory + ", " + object + ")", answer);
        BitSet knows = isDirectory.get(object) ? new BitSet() : keptKnows[c][object];
        if (answer == 0) {
            removalKnows[c][object] = knows;
        }
        if (answer > 0) {
            removalsKnow[object] = with(removalsKnow[object], knows);
        }
        lookAgain(Map.of(), false);
    }

    private void handIn(int c) {
        int s = leastNear(c);
        Map<Integer, BitSet> fresh = new HashMap<>();
        Map<Integer, Long> written = new HashMap<>();
        List<Integer> made = new ArrayList<>();
        List<Integer> removed = new ArrayList<>();
        for (int i = 0; i < 12 && x.record(c, i, 0) != ReplicaFiles.NONE; i++) {
            int o = (int) x.record(c, i, 1);
            if (x.record(c, i, 0) == 0) {
                fresh.put(o, with(keptKnows[c][o], ownWrites[c][o]));
                written.put(o, x.cached(c, o, 0));
            } else if (x.record(c, i, 0) == 1) {
                made.add(o);
            } else if (s >= 0 && !isGone(s, o)) {
                removed.add(o);
            }
        }
        look();
        long answer = x.handIn(c);
        tell("handIn(" + c + ")", answer);
        if (answer <= 0) {
            return;
        }
        for (int o : removed) {
            if (isGone(s, o)) {
                removalsKnow[o] = with(removalsKnow[o], removalKnows[c][o]);
            }
        }
        lookAgain(fresh, false);
        countLost(s, written, made);
    }

    /** What was written or made alone is at the least server then, or told as lost. */
    private void countLost(int s, Map<Integer, Long> written, List<Integer> made) {
        int lost = 0;
        for (int o : written.keySet()) {
            lost += statesAt(s, o).stream().anyMatch(state -> state.value() == written.get(o)) ? 0 : 1;
        }
        for (int o : made) {
            lost += x.copy(s, o, 0) == ReplicaFiles.NONE ? 1 : 0;
        }
        if (x.told(2) - lostBefore != lost) {
            fail("told " + (x.told(2) - lostBefore) + " records as lost, due is " + lost);
        }
        if (lost > 0) {
            saw("a record told as lost");
        }
    }

    private void meet(int server) {
        look();
        tell("meet(" + server + ")", x.meet(server));
        lookAgain(Map.of(), true);
    }

    private void repair(int c, int file) {
        BitSet all = new BitSet();
        int versions = 0;
        for (int s = 0; s < servers && versions == 0; s++) {
            if (file != 0 && isNear(s, c) && x.copy(s, file, 2) > 0) {
                versions = (int) x.copy(s, file, 2);
                for (State state : statesAt(s, file)) {
                    all.or(known.get(state));
                }
            }
        }
        if (versions == 0) {
            return;
        }
        look();
        int i = random.nextInt(versions);
        long answer = x.repair(c, file, i);
        tell("repair(" + c + ", " + file + ", " + i + ")", answer);
        if (answer > 0) {
            saw("repaired");
            lookAgain(Map.of(file, all), false);
        }
    }
}
