import java.util.ArrayList;
import java.util.Arrays;
import java.util.HashMap;
import java.util.List;
import java.util.Map;
import java.util.TreeMap;
import java.util.TreeSet;

/**
 * The document's terms once more, written with maps and lists and without a thought for room or speed:
 * what RandomRunsTest holds ReplicaFiles against. Arguments are taken to be in range.
 */
final class PlainModel {
    static final class Version {
        final int value;
        final int size;
        final int[] vec;

        Version(int value, int size, int[] vec) {
            this.value = value;
            this.size = size;
            this.vec = vec.clone();
        }

        boolean like(Version o) {
            return value == o.value && size == o.size && Arrays.equals(vec, o.vec);
        }
    }

    static final class Entry {
        final int name;
        int[] goneVec;

        Entry(int name) {
            this.name = name;
        }

        Entry twin() {
            Entry e = new Entry(name);
            e.goneVec = goneVec == null ? null : goneVec.clone();
            return e;
        }

        boolean there() {
            return goneVec == null;
        }
    }

    static final class Copy {
        int value;
        int size;
        int[] vec;
        List<Version> versions = new ArrayList<>();
        TreeMap<Integer, Entry> entries = new TreeMap<>();
        TreeSet<Integer> promised = new TreeSet<>();
        boolean dirty;
        long used;

        Copy(int width) {
            vec = new int[width];
        }

        int there() {
            int n = 0;
            for (Entry e : entries.values()) {
                n += e.there() ? 1 : 0;
            }
            return n;
        }

        boolean like(Copy o) {
            if (value != o.value || size != o.size || !Arrays.equals(vec, o.vec)
                    || versions.size() != o.versions.size() || !entries.keySet().equals(o.entries.keySet())) {
                return false;
            }
            for (int i = 0; i < versions.size(); i++) {
                if (!versions.get(i).like(o.versions.get(i))) {
                    return false;
                }
            }
            for (int k : entries.keySet()) {
                if (!Arrays.equals(entries.get(k).goneVec, o.entries.get(k).goneVec)) {
                    return false;
                }
            }
            return true;
        }
    }

    static final class Rec {
        final int kind;
        final int object;
        final int directory;
        final int[] vec;

        Rec(int kind, int object, int directory, int[] vec) {
            this.kind = kind;
            this.object = object;
            this.directory = directory;
            this.vec = vec.clone();
        }
    }

    final int n;
    final int width;
    final boolean[] up;
    final boolean[][] link;
    final boolean[] lose;
    final int[][] marks;
    final List<Map<Integer, Copy>> trees = new ArrayList<>();
    final List<Map<Integer, Copy>> caches = new ArrayList<>();
    final List<List<Rec>> logs = new ArrayList<>();
    final int[][] priority = new int[4][48];
    final int[] versionsTold = new int[4];
    final List<Boolean> isDir = new ArrayList<>();
    final List<Integer> nameOf = new ArrayList<>();
    final int[] told = new int[8];
    final TreeSet<Integer> usedNow = new TreeSet<>();
    long time;
    /** How often something rare happened, so that the test can tell whether its runs reach it. */
    final Map<String, Integer> seen = new TreeMap<>();

    PlainModel(int servers) {
        n = servers < 1 ? 1 : servers > 4 ? 4 : servers;
        width = n + 4;
        up = new boolean[n];
        Arrays.fill(up, true);
        link = new boolean[8][8];
        for (boolean[] row : link) {
            Arrays.fill(row, true);
        }
        lose = new boolean[n];
        marks = new int[n][48];
        for (int s = 0; s < n; s++) {
            trees.add(new HashMap<>());
            trees.get(s).put(0, new Copy(width));
        }
        for (int c = 0; c < 4; c++) {
            caches.add(new HashMap<>());
            logs.add(new ArrayList<>());
        }
        isDir.add(true);
        nameOf.add(0);
    }

    private void saw(String what) {
        seen.merge(what, 1, Integer::sum);
    }

    static boolean atMost(int[] u, int[] v) {
        for (int i = 0; i < u.length; i++) {
            if (u[i] > v[i]) {
                return false;
            }
        }
        return true;
    }

    static int[] greater(int[] u, int[] v) {
        int[] w = u.clone();
        for (int i = 0; i < w.length; i++) {
            w[i] = Math.max(w[i], v[i]);
        }
        return w;
    }

    boolean setLink(int s, int other, boolean isUp) {
        boolean otherwise = link[s][other] != isUp;
        link[s][other] = isUp;
        link[other][s] = isUp;
        endFar();
        return otherwise;
    }

    boolean setServer(int s, boolean isUp) {
        boolean otherwise = up[s] != isUp;
        up[s] = isUp;
        endFar();
        return otherwise;
    }

    private void endFar() {
        for (int c = 0; c < 4; c++) {
            for (Copy copy : caches.get(c).values()) {
                copy.promised.retainAll(near(c));
            }
        }
    }

    boolean setLose(int s) {
        boolean none = !lose[s];
        lose[s] = true;
        return none;
    }

    int setPriority(int c, int o, int p) {
        int was = priority[c][o];
        priority[c][o] = p;
        return was;
    }

    TreeSet<Integer> near(int c) {
        TreeSet<Integer> r = new TreeSet<>();
        for (int s = 0; s < n; s++) {
            if (up[s] && link[s][4 + c]) {
                r.add(s);
            }
        }
        return r;
    }

    boolean alone(int c) {
        return near(c).isEmpty() || !logs.get(c).isEmpty();
    }

    boolean good(int c, int o) {
        Copy copy = caches.get(c).get(o);
        return copy != null && !near(c).isEmpty() && copy.promised.containsAll(near(c));
    }

    private boolean made(int o) {
        return o < isDir.size();
    }

    private int weight(int o, Copy copy) {
        return copy == null ? 0 : isDir.get(o) ? 2 : 1 + copy.size;
    }

    /** Room for so much in all of object o, that may be in the cache already. */
    private boolean room(int c, int o, int wanted, int below) {
        Map<Integer, Copy> cache = caches.get(c);
        int others = 0;
        List<Integer> going = new ArrayList<>();
        for (Map.Entry<Integer, Copy> e : cache.entrySet()) {
            if (e.getKey() == o) {
                continue;
            }
            others += weight(e.getKey(), e.getValue());
            if (!e.getValue().dirty && !usedNow.contains(e.getKey()) && priority[c][e.getKey()] < below) {
                going.add(e.getKey());
            }
        }
        if (wanted <= weight(o, cache.get(o))) {
            return true;
        }
        going.sort((a, b) -> priority[c][a] != priority[c][b] ? priority[c][a] - priority[c][b]
                : Long.compare(cache.get(a).used, cache.get(b).used));
        List<Integer> gone = new ArrayList<>();
        for (int g : going) {
            if (others + wanted <= 24) {
                break;
            }
            others -= weight(g, cache.get(g));
            gone.add(g);
        }
        if (others + wanted > 24) {
            saw("no room");
            return false;
        }
        for (int g : gone) {
            cache.remove(g);
            told[6]++;
            saw("went for room");
        }
        return true;
    }

    private void use(int c, int o) {
        usedNow.add(o);
        time++;
        if (caches.get(c).containsKey(o)) {
            caches.get(c).get(o).used = time;
        }
    }

    /** 0, or what stopped it. */
    private long get(int c, int o, int below) {
        Map<Integer, Copy> cache = caches.get(c);
        if (alone(c)) {
            if (!cache.containsKey(o)) {
                return ReplicaFiles.MISS;
            }
            use(c, o);
            return 0;
        }
        if (good(c, o)) {
            use(c, o);
            return 0;
        }
        TreeSet<Integer> have = new TreeSet<>();
        for (int s : near(c)) {
            if (trees.get(s).containsKey(o)) {
                have.add(s);
            }
        }
        if (have.isEmpty()) {
            cache.remove(o);
            return ReplicaFiles.GONE;
        }
        int best = -1;
        for (int s : have.descendingSet()) {
            boolean greatest = true;
            for (int t : have) {
                greatest &= atMost(trees.get(t).get(o).vec, trees.get(s).get(o).vec);
            }
            best = greatest ? s : best;
        }
        if (best < 0) {
            saw("apart");
            return ReplicaFiles.APART;
        }
        Copy from = trees.get(best).get(o);
        if (!from.versions.isEmpty()) {
            saw("conflict");
            return ReplicaFiles.CONFLICT;
        }
        if (room(c, o, weight(o, from), below)) {
            Copy mine = new Copy(width);
            mine.value = from.value;
            mine.size = from.size;
            mine.vec = from.vec.clone();
            from.entries.forEach((k, e) -> mine.entries.put(k, e.twin()));
            mine.promised.addAll(set(c, o, from.vec));
            cache.put(o, mine);
            told[5]++;
        } else {
            cache.remove(o);
        }
        use(c, o);
        return 0;
    }

    private TreeSet<Integer> set(int c, int o, int[] vec) {
        TreeSet<Integer> r = new TreeSet<>();
        for (int s : near(c)) {
            Copy copy = trees.get(s).get(o);
            if (copy != null && copy.versions.isEmpty() && Arrays.equals(copy.vec, vec)) {
                r.add(s);
            }
        }
        return r;
    }

    private long start(int c, int o, boolean wantsDir) {
        usedNow.clear();
        if (!made(o)) {
            return ReplicaFiles.NONE;
        }
        if (isDir.get(o) != wantsDir) {
            return ReplicaFiles.WRONG;
        }
        return get(c, o, 10);
    }

    long find(int c, int d, int name) {
        long stop = start(c, d, true);
        if (stop != 0) {
            return stop;
        }
        for (Map.Entry<Integer, Entry> e : caches.get(c).get(d).entries.entrySet()) {
            if (e.getValue().there() && e.getValue().name == name) {
                return e.getKey();
            }
        }
        return ReplicaFiles.NONE;
    }

    long read(int c, int f) {
        long stop = start(c, f, false);
        return stop != 0 ? stop : caches.get(c).get(f).value;
    }

    /** COUNTED as in 4; those that lost their second phase. */
    private TreeSet<Integer> count(TreeSet<Integer> set, int o) {
        TreeSet<Integer> lost = new TreeSet<>();
        for (int s : set) {
            marks[s][o]++;
        }
        for (int s : set) {
            Copy copy = trees.get(s).get(o);
            if (lose[s]) {
                lose[s] = false;
                told[4]++;
                lost.add(s);
                copy.vec[s] = marks[s][o];
            } else {
                for (int t : set) {
                    copy.vec[t] = marks[t][o];
                }
            }
        }
        return lost;
    }

    private void countAll(TreeSet<Integer> set, int o) {
        for (int s : set) {
            marks[s][o]++;
        }
        for (int s : set) {
            for (int t : set) {
                trees.get(s).get(o).vec[t] = marks[t][o];
            }
        }
    }

    private void endPromises(TreeSet<Integer> set, int o, int butFor) {
        for (int c = 0; c < 4; c++) {
            if (c != butFor && caches.get(c).containsKey(o)) {
                caches.get(c).get(o).promised.removeAll(set);
            }
        }
    }

    private void finish(int c, TreeSet<Integer> set, int o) {
        TreeSet<Integer> lost = count(set, o);
        told[1] += set.size();
        endPromises(set, o, c);
        Copy mine = caches.get(c).get(o);
        if (mine != null) {
            for (int s : set) {
                mine.vec[s] = marks[s][o];
            }
            mine.promised = new TreeSet<>(set);
            mine.promised.removeAll(lost);
        }
    }

    private Rec inLog(int c, int kind, int o) {
        for (Rec r : logs.get(c)) {
            if (r.kind == kind && r.object == o) {
                return r;
            }
        }
        return null;
    }

    long write(int c, int f, int value, int size) {
        long stop = start(c, f, false);
        if (stop != 0) {
            return stop;
        }
        Copy mine = caches.get(c).get(f);
        if (alone(c)) {
            boolean isNew = inLog(c, 0, f) == null;
            if (isNew && logs.get(c).size() == 12) {
                saw("log full");
                return ReplicaFiles.FULL;
            }
            if (!room(c, f, 1 + size, 10)) {
                return ReplicaFiles.NO_ROOM;
            }
            if (isNew) {
                logs.get(c).add(new Rec(0, f, -1, mine.vec));
            }
            mine.value = value;
            mine.size = size;
            mine.dirty = true;
            return 0;
        }
        TreeSet<Integer> set = set(c, f, mine.vec);
        for (int s : set) {
            trees.get(s).get(f).value = value;
            trees.get(s).get(f).size = size;
        }
        finish(c, set, f);
        if (room(c, f, 1 + size, 10)) {
            mine.value = value;
            mine.size = size;
        } else {
            caches.get(c).remove(f);
        }
        return set.size();
    }

    long make(int c, int d, int name, boolean dir) {
        long stop = start(c, d, true);
        if (stop != 0) {
            return stop;
        }
        if (isDir.size() == 48) {
            saw("numbers used up");
            return ReplicaFiles.FULL;
        }
        boolean alone = alone(c);
        if (alone && logs.get(c).size() == 12) {
            saw("log full");
            return ReplicaFiles.FULL;
        }
        int o = isDir.size();
        Copy mine = caches.get(c).get(d);
        if (alone) {
            if (!room(c, o, dir ? 2 : 1, 10)) {
                return ReplicaFiles.NO_ROOM;
            }
            isDir.add(dir);
            nameOf.add(name);
            Copy fresh = new Copy(width);
            fresh.dirty = true;
            caches.get(c).put(o, fresh);
            use(c, o);
            mine.entries.put(o, new Entry(name));
            mine.dirty = true;
            logs.get(c).add(new Rec(1, o, d, fresh.vec));
            return o;
        }
        isDir.add(dir);
        nameOf.add(name);
        TreeSet<Integer> set = set(c, d, mine.vec);
        for (int s : set) {
            trees.get(s).get(d).entries.put(o, new Entry(name));
            trees.get(s).put(o, new Copy(width));
        }
        finish(c, set, d);
        mine.entries.put(o, new Entry(name));
        if (room(c, o, dir ? 2 : 1, 10)) {
            Copy fresh = new Copy(width);
            fresh.promised.addAll(set);
            caches.get(c).put(o, fresh);
            use(c, o);
        }
        return o;
    }

    private void removeAt(TreeSet<Integer> set, int d, int o, int[] vec) {
        for (int s : set) {
            Map<Integer, Copy> tree = trees.get(s);
            if (!tree.get(d).entries.containsKey(o)) {
                saw("removed where it was not known");
            }
            tree.get(d).entries.computeIfAbsent(o, k -> new Entry(nameOf.get(k))).goneVec = vec.clone();
            Copy copy = tree.get(o);
            if (copy == null) {
                continue;
            }
            if (!atMost(copy.vec, vec) || !copy.versions.isEmpty()) {
                saw(copy.versions.isEmpty() ? "kept as it was not known" : "kept for its versions");
                continue;
            }
            boolean empty = true;
            for (int k : copy.entries.keySet()) {
                empty &= !tree.containsKey(k);
            }
            if (empty) {
                tree.remove(o);
            } else {
                saw("gone directory kept");
            }
        }
    }

    long remove(int c, int d, int o) {
        long stop = start(c, d, true);
        if (stop != 0) {
            return stop;
        }
        Map<Integer, Copy> cache = caches.get(c);
        Entry e = cache.get(d).entries.get(o);
        if (e == null || !e.there()) {
            return ReplicaFiles.NONE;
        }
        stop = get(c, o, 10);
        if (stop != 0) {
            return stop;
        }
        Copy mine = cache.get(o);
        if (mine.there() > 0) {
            return ReplicaFiles.FULL;
        }
        if (!alone(c)) {
            TreeSet<Integer> set = set(c, d, cache.get(d).vec);
            removeAt(set, d, o, mine.vec);
            finish(c, set, d);
            endPromises(set, o, c);
            e.goneVec = mine.vec.clone();
            cache.remove(o);
            return set.size();
        }
        List<Rec> log = logs.get(c);
        if (inLog(c, 1, o) != null) {
            log.removeIf(r -> r.object == o);
            cache.remove(o);
            cache.get(d).entries.remove(o);
            if (log.isEmpty()) {
                cache.values().forEach(k -> k.dirty = false);
            }
            return 0;
        }
        if (log.size() - (inLog(c, 0, o) != null ? 1 : 0) == 12) {
            saw("log full");
            return ReplicaFiles.FULL;
        }
        log.removeIf(r -> r.object == o && r.kind == 0);
        log.add(new Rec(2, o, d, mine.vec));
        e.goneVec = mine.vec.clone();
        cache.remove(o);
        cache.get(d).dirty = true;
        return 0;
    }

    long handIn(int c) {
        TreeSet<Integer> near = near(c);
        if (near.isEmpty()) {
            return ReplicaFiles.IS_ALONE;
        }
        List<Rec> log = logs.get(c);
        for (Rec r : log) {
            Map<Integer, Copy> tree = trees.get(near.first());
            if (r.kind == 0) {
                handWrite(c, r, near.first());
            } else if (r.kind == 1) {
                handMake(r, near);
            } else {
                Copy copy = tree.get(r.object);
                if (copy == null || !tree.containsKey(r.directory)
                        || !tree.get(r.directory).entries.get(r.object).there()) {
                    saw("nothing to remove");
                    continue;
                }
                if (atMost(copy.vec, r.vec) && copy.versions.isEmpty() && copy.there() == 0) {
                    TreeSet<Integer> set = set(c, r.directory, tree.get(r.directory).vec);
                    removeAt(set, r.directory, r.object, r.vec);
                    count(set, r.directory);
                    told[1] += set.size();
                    endPromises(set, r.directory, -1);
                    endPromises(set, r.object, -1);
                    saw("handed in removal");
                } else {
                    told[3]++;
                    saw("refused");
                }
            }
        }
        int records = log.size();
        log.clear();
        caches.get(c).values().removeIf(k -> k.dirty);
        return records;
    }

    private void handWrite(int c, Rec r, int s) {
        Copy copy = trees.get(s).get(r.object);
        Copy mine = caches.get(c).get(r.object);
        if (copy == null || copy.versions.size() == 6) {
            told[2]++;
            saw(copy == null ? "lost write" : "lost version of seven");
            return;
        }
        if (copy.versions.isEmpty() && Arrays.equals(copy.vec, r.vec)) {
            TreeSet<Integer> set = set(c, r.object, r.vec);
            for (int t : set) {
                trees.get(t).get(r.object).value = mine.value;
                trees.get(t).get(r.object).size = mine.size;
            }
            count(set, r.object);
            told[1] += set.size();
            endPromises(set, r.object, -1);
            return;
        }
        saw("handed in version");
        if (copy.versions.isEmpty()) {
            copy.versions.add(new Version(copy.value, copy.size, copy.vec));
        }
        versionsTold[c]++;
        int[] vec = r.vec.clone();
        vec[n + c] = versionsTold[c];
        copy.versions.add(new Version(mine.value, mine.size, vec));
        copy.vec = greater(copy.vec, vec);
        TreeSet<Integer> one = new TreeSet<>(List.of(s));
        countAll(one, r.object);
        endPromises(one, r.object, -1);
    }

    private void handMake(Rec r, TreeSet<Integer> near) {
        if (!trees.get(near.first()).containsKey(r.directory)) {
            told[2]++;
            saw("lost make");
            return;
        }
        TreeSet<Integer> set = new TreeSet<>();
        for (int s : near) {
            if (trees.get(s).containsKey(r.directory)) {
                set.add(s);
                trees.get(s).get(r.directory).entries.put(r.object, new Entry(nameOf.get(r.object)));
                trees.get(s).put(r.object, new Copy(width));
            }
        }
        count(set, r.directory);
        told[1] += set.size();
        endPromises(set, r.directory, -1);
    }

    long walk(int c) {
        usedNow.clear();
        if (alone(c)) {
            return ReplicaFiles.IS_ALONE;
        }
        List<Integer> all = new ArrayList<>();
        for (int o = 0; o < isDir.size(); o++) {
            if (priority[c][o] > 0) {
                all.add(o);
            }
        }
        all.sort((a, b) -> priority[c][a] != priority[c][b] ? priority[c][b] - priority[c][a] : a - b);
        for (int o : all) {
            get(c, o, priority[c][o]);
        }
        long good = 0;
        for (int o : all) {
            good += good(c, o) ? 1 : 0;
        }
        return good;
    }

    long meet(int server) {
        if (!up[server]) {
            return ReplicaFiles.NONE;
        }
        TreeSet<Integer> group = new TreeSet<>();
        for (int s = 0; s < n; s++) {
            if (up[s] && (s == server || link[s][server])) {
                group.add(s);
            }
        }
        long changes = 0;
        for (int o = 0; o < isDir.size(); o++) {
            changes += meetOn(group, o);
        }
        return changes;
    }

    private List<Copy> copies(TreeSet<Integer> group, int o) {
        List<Copy> r = new ArrayList<>();
        for (int s : group) {
            if (trees.get(s).containsKey(o)) {
                r.add(trees.get(s).get(o));
            }
        }
        return r;
    }

    private int parentIn(TreeSet<Integer> group, int o) {
        for (int s : group) {
            for (Map.Entry<Integer, Copy> e : trees.get(s).entrySet()) {
                if (e.getValue().entries.containsKey(o)) {
                    return e.getKey();
                }
            }
        }
        return -1;
    }

    private long meetOn(TreeSet<Integer> group, int o) {
        long changes = 0;
        boolean has = !copies(group, o).isEmpty();
        if (o != 0) {
            int d = parentIn(group, o);
            if (d < 0) {
                if (has) {
                    throw new IllegalStateException("a copy without an entry: " + o);
                }
                return 0;
            }
            Entry e = trees.get(group.first()).get(d).entries.get(o);
            for (int s : group) {
                if (!Arrays.equals(e.goneVec, trees.get(s).get(d).entries.get(o).goneVec)) {
                    throw new IllegalStateException("entries are not alike: " + o);
                }
            }
            if (!has && !e.there()) {
                return 0;
            }
            if (!has) {
                saw("there without a copy");
            }
            if (!e.there()) {
                if (droppable(group, o, e.goneVec)) {
                    return dropAll(group, o);
                }
                saw(isDir.get(o) ? "directory there again" : "file there again");
                for (int s : group) {
                    trees.get(s).get(d).entries.get(o).goneVec = null;
                }
                countAll(group, d);
                endPromises(group, d, -1);
                changes += group.size();
            }
        }
        return changes + (isDir.get(o) ? joinDirectory(group, o) : joinFile(group, o));
    }

    private boolean droppable(TreeSet<Integer> group, int o, int[] goneVec) {
        TreeMap<Integer, int[]> gone = new TreeMap<>();
        TreeSet<Integer> there = new TreeSet<>();
        for (Copy copy : copies(group, o)) {
            if (!atMost(copy.vec, goneVec)) {
                return false;
            }
            for (Version v : copy.versions) {
                if (!atMost(v.vec, goneVec)) {
                    return false;
                }
            }
            copy.entries.forEach((k, e) -> {
                if (e.there()) {
                    there.add(k);
                } else {
                    gone.merge(k, e.goneVec, PlainModel::greater);
                }
            });
        }
        there.removeAll(gone.keySet());
        if (!there.isEmpty()) {
            saw("kept for what is in it");
            return false;
        }
        for (Map.Entry<Integer, int[]> e : gone.entrySet()) {
            if (!droppable(group, e.getKey(), e.getValue())) {
                saw("kept for what is gone in it");
                return false;
            }
        }
        return true;
    }

    private long dropAll(TreeSet<Integer> group, int o) {
        long changes = 0;
        TreeSet<Integer> inside = new TreeSet<>();
        for (int s : group) {
            Copy copy = trees.get(s).remove(o);
            if (copy != null) {
                changes++;
                inside.addAll(copy.entries.keySet());
                endPromises(new TreeSet<>(List.of(s)), o, -1);
                saw("dropped in a meeting");
            }
        }
        for (int k : inside) {
            long more = dropAll(group, k);
            if (more > 0) {
                saw("dropped with its directory");
            }
            changes += more;
        }
        return changes;
    }

    private long joinDirectory(TreeSet<Integer> group, int d) {
        List<Copy> copies = copies(group, d);
        boolean alike = copies.size() == group.size();
        for (Copy k : copies) {
            alike &= k.like(copies.get(0));
        }
        if (alike) {
            return 0;
        }
        int[] vec = new int[width];
        TreeMap<Integer, Entry> entries = new TreeMap<>();
        for (Copy k : copies) {
            vec = greater(vec, k.vec);
            k.entries.forEach((o, e) -> {
                Entry all = entries.computeIfAbsent(o, x -> e.twin());
                if (!e.there()) {
                    all.goneVec = all.there() ? e.goneVec.clone() : greater(all.goneVec, e.goneVec);
                }
            });
        }
        for (int s : group) {
            Copy copy = new Copy(width);
            copy.vec = vec.clone();
            entries.forEach((o, e) -> copy.entries.put(o, e.twin()));
            trees.get(s).put(d, copy);
        }
        countAll(group, d);
        endPromises(group, d, -1);
        return group.size();
    }

    private long joinFile(TreeSet<Integer> group, int f) {
        List<Version> all = new ArrayList<>();
        int[] vec = new int[width];
        for (Copy copy : copies(group, f)) {
            vec = greater(vec, copy.vec);
            List<Version> its = copy.versions.isEmpty()
                    ? List.of(new Version(copy.value, copy.size, copy.vec)) : copy.versions;
            for (Version v : its) {
                vec = greater(vec, v.vec);
                if (all.stream().noneMatch(v::like)) {
                    all.add(v);
                }
            }
        }
        List<Version> candidates = new ArrayList<>();
        for (Version v : all) {
            if (all.stream().noneMatch(w -> atMost(v.vec, w.vec) && !Arrays.equals(v.vec, w.vec))) {
                candidates.add(v);
            }
        }
        if (candidates.isEmpty()) {
            return 0;
        }
        Copy due = new Copy(width);
        due.value = candidates.get(0).value;
        due.size = candidates.get(0).size;
        due.vec = candidates.get(0).vec.clone();
        long changes = 0;
        if (candidates.size() == 1) {
            for (int s : group) {
                Copy was = trees.get(s).get(f);
                if (was == null || !was.like(due)) {
                    Copy copy = new Copy(width);
                    copy.value = due.value;
                    copy.size = due.size;
                    copy.vec = due.vec.clone();
                    trees.get(s).put(f, copy);
                    endPromises(new TreeSet<>(List.of(s)), f, -1);
                    changes++;
                }
            }
            return changes;
        }
        List<Copy> copies = copies(group, f);
        due.versions = candidates;
        due.vec = copies.get(0).vec.clone();
        boolean alike = copies.size() == group.size();
        for (Copy k : copies) {
            alike &= k.like(due);
        }
        if (alike) {
            return 0;
        }
        saw("conflict from a meeting");
        int kept = Math.min(6, candidates.size());
        told[2] += candidates.size() - kept;
        if (kept < candidates.size()) {
            saw("lost in a meeting");
        }
        for (int s : group) {
            Copy copy = new Copy(width);
            copy.value = due.value;
            copy.size = due.size;
            copy.vec = vec.clone();
            copy.versions = new ArrayList<>(candidates.subList(0, kept));
            trees.get(s).put(f, copy);
        }
        countAll(group, f);
        endPromises(group, f, -1);
        return group.size();
    }

    long repair(int c, int f, int i) {
        if (!made(f)) {
            return ReplicaFiles.NONE;
        }
        if (isDir.get(f)) {
            return ReplicaFiles.WRONG;
        }
        if (alone(c)) {
            return ReplicaFiles.IS_ALONE;
        }
        for (int s : near(c)) {
            Copy copy = trees.get(s).get(f);
            if (copy == null || copy.versions.isEmpty()) {
                continue;
            }
            if (i < 0 || i >= copy.versions.size()) {
                return ReplicaFiles.NONE;
            }
            Version v = copy.versions.get(i);
            int[] vec = copy.vec.clone();
            TreeSet<Integer> set = new TreeSet<>();
            for (int t : near(c)) {
                Copy k = trees.get(t).get(f);
                if (k != null && Arrays.equals(k.vec, vec)) {
                    k.value = v.value;
                    k.size = v.size;
                    k.versions.clear();
                    set.add(t);
                }
            }
            count(set, f);
            endPromises(set, f, -1);
            saw("repaired");
            return set.size();
        }
        return ReplicaFiles.NONE;
    }

    long copy(int s, int o, int what) {
        Copy k = trees.get(s).get(o);
        if (k == null) {
            return ReplicaFiles.NONE;
        }
        return new long[] {k.value, k.size, k.versions.size(), k.entries.size(), k.there()}[what];
    }

    long vector(int s, int o, int version, int k) {
        Copy copy = trees.get(s).get(o);
        if (copy == null || version >= copy.versions.size() || version < -1) {
            return ReplicaFiles.NONE;
        }
        return version < 0 ? copy.vec[k] : copy.versions.get(version).vec[k];
    }

    long version(int s, int o, int version, int what) {
        Copy copy = trees.get(s).get(o);
        if (copy == null || version >= copy.versions.size() || version < 0) {
            return ReplicaFiles.NONE;
        }
        return what == 0 ? copy.versions.get(version).value : copy.versions.get(version).size;
    }

    long entry(int s, int d, int i, int what) {
        Copy copy = trees.get(s).get(d);
        if (copy == null || i < 0 || i >= copy.entries.size()) {
            return ReplicaFiles.NONE;
        }
        int o = new ArrayList<>(copy.entries.keySet()).get(i);
        Entry e = copy.entries.get(o);
        return what == 0 ? o : what == 1 ? e.name : e.there() ? 0 : 1;
    }

    long cached(int c, int o, int what) {
        Copy k = caches.get(c).get(o);
        if (k == null) {
            return ReplicaFiles.NONE;
        }
        switch (what) {
            case 0: return isDir.get(o) ? k.there() : k.value;
            case 1: return k.size;
            case 2: return k.promised.stream().mapToLong(s -> 1L << s).sum();
            case 3: return k.dirty ? 1 : 0;
            default: return good(c, o) ? 1 : 0;
        }
    }

    long record(int c, int i, int what) {
        if (i < 0 || i >= logs.get(c).size()) {
            return ReplicaFiles.NONE;
        }
        Rec r = logs.get(c).get(i);
        return what == 0 ? r.kind : what == 1 ? r.object : r.directory;
    }

    int told(int what) {
        if (what == 0) {
            return isDir.size() - 1;
        }
        if (what < 7) {
            return told[what];
        }
        Map<Integer, Copy> first = null;
        for (int s = 0; s < n; s++) {
            if (!up[s]) {
                continue;
            }
            if (first == null) {
                first = trees.get(s);
            }
            if (!first.keySet().equals(trees.get(s).keySet())) {
                return 0;
            }
            for (int o : first.keySet()) {
                if (!first.get(o).like(trees.get(s).get(o))) {
                    return 0;
                }
            }
        }
        return 1;
    }
}
