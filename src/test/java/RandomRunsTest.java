import java.util.Arrays;
import java.util.Map;
import java.util.Random;
import java.util.TreeMap;

/** Runs of calls drawn with fixed seeds, each answer and the whole state held against PlainModel. */
public final class RandomRunsTest {
    private static final int CALLS = 512;
    private static int wrong = 0;
    private static final Map<String, Integer> seen = new TreeMap<>();

    public static void main(String[] args) {
        int runs = args.length > 0 ? Integer.parseInt(args[0]) : 3000;
        for (int seed = 0; seed < runs && wrong < 20; seed++) {
            new RandomRunsTest(seed).run();
        }
        String[] rare = {"apart", "conflict", "no room", "went for room", "log full", "numbers used up",
            "lost write", "lost make", "handed in version", "handed in removal", "refused",
            "nothing to remove", "gone directory kept", "file there again", "directory there again",
            "kept for what is in it", "kept for what is gone in it", "dropped in a meeting", "dropped with its directory",
            "conflict from a meeting", "repaired", "removed where it was not known", "kept as it was not known",
            "kept for its versions", "lost version of seven"};
        for (String what : rare) {
            if (runs >= 3000 && !seen.containsKey(what)) {
                wrong++;
                System.out.println("the runs never came to: " + what);
            }
        }
        if (args.length > 0) {
            System.out.println(seen);
        }
        System.out.println(wrong == 0 ? "random runs: all answers are as due" : "random runs: " + wrong + " wrong");
        if (wrong != 0) {
            System.exit(1);
        }
    }

    private final int seed;
    private final Random random;
    private final int servers;
    private final ReplicaFiles x;
    private final PlainModel m;
    private final StringBuilder story = new StringBuilder();
    /** How eagerly links go down in this run, how eagerly it makes objects, and how many, how often servers meet. */
    private final int trouble;
    private final int making;
    private final int mostMade;
    private final int meeting;
    private final int excursions;

    private RandomRunsTest(int seed) {
        this.seed = seed;
        random = new Random(seed * 7919L + 13);
        servers = 1 + random.nextInt(4);
        x = new ReplicaFiles(servers);
        m = new PlainModel(servers);
        trouble = 1 + random.nextInt(30);
        making = 1 + random.nextInt(20);
        mostMade = new int[] {1, 2, 5, 12, 48}[random.nextInt(5)];
        meeting = random.nextInt(13);
        excursions = random.nextInt(3) * 10;
    }

    private void run() {
        for (int i = 0; i < CALLS && wrong < 20; i++) {
            int before = wrong;
            step();
            if (wrong == before && (i % 8 == 7 || i == CALLS - 1)) {
                compareAll();
            }
            if (wrong > before) {
                System.out.println("run of seed " + seed + ", " + servers + " servers: " + story);
                return;
            }
        }
        m.seen.forEach((k, v) -> seen.merge(k, v, Integer::sum));
    }

    private void due(String call, long got, long want) {
        story.append(call).append(" = ").append(want).append("; ");
        same(got, want, call);
    }

    private void same(long got, long want, String method, int... arguments) {
        if (got != want) {
            wrong++;
            System.out.println("seed " + seed + ": " + method + (arguments.length > 0 ? Arrays.toString(arguments) : "")
                    + " answered " + got + ", due is " + want);
        }
    }

    private int below(int bound) {
        return random.nextInt(bound);
    }

    private int someObject() {
        int made = m.told(0);
        return below(30) == 0 ? below(48) : below(made + 1);
    }

    private int someDirectory() {
        for (int i = 0; i < 4; i++) {
            int o = someObject();
            if (o < m.isDir.size() && m.isDir.get(o)) {
                return o;
            }
        }
        return 0;
    }

    private int someFile() {
        for (int i = 0; i < 6; i++) {
            int o = someObject();
            if (o < m.isDir.size() && !m.isDir.get(o)) {
                return o;
            }
        }
        return someObject();
    }

    private void step() {
        int c = below(below(2) == 0 ? 2 : 4);
        if (below(100) < excursions) {
            excursion(c);
            return;
        }
        int dice = below(60 + trouble + making + meeting);
        if (dice < trouble) {
            turn(c);
        } else if (dice < trouble + making && (m.told(0) < mostMade || below(10) == 0)) {
            int d = someDirectory();
            int name = below(4);
            boolean dir = below(3) == 0;
            due("make(" + c + ", " + d + ", " + name + ", " + dir + ")", x.make(c, d, name, dir), m.make(c, d, name, dir));
        } else if (dice < trouble + meeting || below(100) == 0) {
            int s = below(servers);
            due("meet(" + s + ")", x.meet(s), m.meet(s));
        } else {
            act(c, below(60));
        }
    }

    /** A client gets something where it can, goes alone, does a few things, and hands in somewhere. */
    private void excursion(int c) {
        linkSome(c, 1 + below((1 << servers) - 1));
        int file = someFile();
        int directory = someDirectory();
        due("find(" + c + ", " + directory + ", 0)", x.find(c, directory, 0), m.find(c, directory, 0));
        due("read(" + c + ", " + file + ")", x.read(c, file), m.read(c, file));
        linkSome(c, 0);
        for (int i = 1 + below(3); i > 0; i--) {
            int kind = below(6);
            if (kind == 0) {
                removal(c);
            } else if (kind == 1) {
                due("remove(" + c + ", " + directory + ", " + file + ")", x.remove(c, directory, file), m.remove(c, directory, file));
            } else if (kind == 2 && m.told(0) < mostMade) {
                due("make(" + c + ", " + directory + ", 1, false)", x.make(c, directory, 1, false), m.make(c, directory, 1, false));
            } else {
                int value = below(1000);
                due("write(" + c + ", " + file + ", " + value + ", 1)", x.write(c, file, value, 1), m.write(c, file, value, 1));
            }
        }
        linkSome(c, 1 + below((1 << servers) - 1));
        due("handIn(" + c + ")", x.handIn(c), m.handIn(c));
    }

    private void linkSome(int c, int bits) {
        for (int s = 0; s < servers; s++) {
            boolean up = (bits >> s & 1) != 0;
            due("link(" + s + ", " + (4 + c) + ", " + up + ")", x.link(s, 4 + c, up) ? 1 : 0, m.setLink(s, 4 + c, up) ? 1 : 0);
        }
    }

    private void turn(int c) {
        int s = below(servers);
        boolean up = below(5) < 3;
        int kind = below(10);
        if (kind < 5) {
            due("link(" + s + ", " + (4 + c) + ", " + up + ")", x.link(s, 4 + c, up) ? 1 : 0, m.setLink(s, 4 + c, up) ? 1 : 0);
        } else if (kind < 8) {
            int t = below(servers);
            if (t != s) {
                due("link(" + s + ", " + t + ", " + up + ")", x.link(s, t, up) ? 1 : 0, m.setLink(s, t, up) ? 1 : 0);
            }
        } else if (kind < 9) {
            due("server(" + s + ", " + up + ")", x.server(s, up) ? 1 : 0, m.setServer(s, up) ? 1 : 0);
        } else {
            due("lose(" + s + ")", x.lose(s) ? 1 : 0, m.setLose(s) ? 1 : 0);
        }
    }

    private void act(int c, int dice) {
        if (dice < 18) {
            int f = someFile();
            int value = below(1000) - 100;
            int size = below(7);
            due("write(" + c + ", " + f + ", " + value + ", " + size + ")", x.write(c, f, value, size), m.write(c, f, value, size));
        } else if (dice < 26) {
            int f = someFile();
            due("read(" + c + ", " + f + ")", x.read(c, f), m.read(c, f));
        } else if (dice < 32) {
            int d = someDirectory();
            int name = below(4);
            due("find(" + c + ", " + d + ", " + name + ")", x.find(c, d, name), m.find(c, d, name));
        } else if (dice < 46) {
            removal(c);
        } else if (dice < 50) {
            due("handIn(" + c + ")", x.handIn(c), m.handIn(c));
        } else if (dice < 53) {
            due("walk(" + c + ")", x.walk(c), m.walk(c));
        } else if (dice < 57) {
            int o = someObject();
            int p = below(3) == 0 ? 0 : below(10);
            due("priority(" + c + ", " + o + ", " + p + ")", x.priority(c, o, p), m.setPriority(c, o, p));
        } else {
            int f = someFile();
            int i = below(4) - (below(20) == 0 ? 1 : 0);
            due("repair(" + c + ", " + f + ", " + i + ")", x.repair(c, f, i), m.repair(c, f, i));
        }
    }

    private void removal(int c) {
        int d = someDirectory();
        int o = someObject();
        for (int i = 0; i < 6; i++) {
            int at = m.trees.get(below(servers)).containsKey(d) ? below(servers) : 0;
            long entry = m.entry(at, d, below(4), 0);
            if (entry >= 0) {
                o = (int) entry;
                break;
            }
        }
        due("remove(" + c + ", " + d + ", " + o + ")", x.remove(c, d, o), m.remove(c, d, o));
    }

    private void compareAll() {
        int made = Math.min(47, m.told(0) + 1);
        for (int s = 0; s < servers; s++) {
            for (int o = 0; o <= made; o++) {
                compareCopy(s, o);
            }
        }
        for (int c = 0; c < 4; c++) {
            for (int o = 0; o <= made; o++) {
                for (int what = 0; what < 5; what++) {
                    same(x.cached(c, o, what), m.cached(c, o, what), "cached", c, o, what);
                }
            }
            for (int i = -1; i < 13; i++) {
                for (int what = 0; what < 3; what++) {
                    same(x.record(c, i, what), m.record(c, i, what), "record", c, i, what);
                }
            }
        }
        for (int what = 0; what < 8; what++) {
            same(x.told(what), m.told(what), "told", what);
        }
    }

    private void compareCopy(int s, int o) {
        for (int what = 0; what < 5; what++) {
            same(x.copy(s, o, what), m.copy(s, o, what), "copy", s, o, what);
        }
        for (int v = -2; v <= m.copy(s, o, 2); v++) {
            for (int k = 0; k < servers + 4; k++) {
                same(x.vector(s, o, v, k), m.vector(s, o, v, k), "vector", s, o, v, k);
            }
            for (int what = 0; what < 2; what++) {
                same(x.version(s, o, v, what), m.version(s, o, v, what), "version", s, o, v, what);
            }
        }
        for (int i = -1; i <= m.copy(s, o, 3); i++) {
            for (int what = 0; what < 3; what++) {
                same(x.entry(s, o, i, what), m.entry(s, o, i, what), "entry", s, o, i, what);
            }
        }
    }
}
