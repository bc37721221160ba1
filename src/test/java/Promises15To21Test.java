/** The promises 15 to 21, and the end of the Terms on wrong arguments and named answers, sentence by sentence. */
public final class Promises15To21Test extends Sentences {
    private static final String END = "Terms IndexOutOfBoundsException";
    private static final int[] ODD = {Integer.MIN_VALUE, -1000, -2, -1, 48, 49, 1000, Integer.MAX_VALUE};

    public static void main(String[] args) {
        copyOfAFile();
        copyOfADirectory();
        copyOfNone();
        vectorOfACopy();
        vectorOfAVersion();
        vectorOfNone();
        vectorOfNoCount();
        versionValueAndSize();
        versionOfNone();
        entryByNumbers();
        entryOfNone();
        cachedFile();
        cachedDirectory();
        cachedOfNone();
        recordKinds();
        recordOfNone();
        toldMade();
        toldActs();
        toldLost();
        toldRefused();
        toldPhases();
        toldCame();
        toldWent();
        toldAlike();
        toldAlikeWithoutACopy();
        toldAlikeOfThoseThatAreUp();
        toldAnother();
        noSuchServer();
        noSuchClient();
        noSuchObject();
        anotherWhat();
        aRefusedCallChangesNothing();
        anIndexIsLookedAtFirst();
        namedAnswers();
        wrongAheadOfGetting();
        neverMade();
        neverMadeOfRemove();
        end("Promises 15 to 21");
    }

    private static void copyOfAFile() {
        given("Promise 15: copy", "Of a server's COPY: VALUE (what = 0), SIZE (1), how many VERSIONS (2)", 2);
        x.make(0, 0, 0, false);
        x.write(0, 1, -9, 4);
        long[] plain = {-9, 4, 0, 0, 0};
        for (int what = 0; what < 5; what++) {
            due("what " + what, x.copy(1, 1, what), plain[what]);
        }
        near(0, 0);
        near(1, 1);
        x.write(1, 1, 7, 6);
        x.write(0, 1, 8, 5);
        x.meet(0);
        long[] inConflict = {8, 5, 2, 0, 0};
        for (int what = 0; what < 5; what++) {
            due("in conflict, what " + what, x.copy(1, 1, what), inConflict[what]);
        }
    }

    private static void copyOfADirectory() {
        given("Promise 15: copy", "how many ENTRIES (3), how many of them are THERE (4); 0 where there is no such thing", 2);
        long[] empty = {0, 0, 0, 0, 0};
        for (int what = 0; what < 5; what++) {
            due("what " + what, x.copy(1, 0, what), empty[what]);
        }
        files(1, 2, 3);
        x.remove(0, 0, 2);
        long[] some = {0, 0, 0, 3, 2};
        for (int what = 0; what < 5; what++) {
            due("what " + what, x.copy(1, 0, what), some[what]);
        }
    }

    private static void copyOfNone() {
        given("Promise 15: copy", "NONE without a COPY.", 2);
        near(0, 0);
        x.make(0, 0, 0, false);
        x.make(0, 0, 0, false);
        x.remove(0, 0, 2);
        for (int what = 0; what < 5; what++) {
            due("not at 1", x.copy(1, 1, what), NONE);
            due("dropped at 0", x.copy(0, 2, what), NONE);
            due("never made", x.copy(0, 3, what), NONE);
            due("never made", x.copy(0, 47, what), NONE);
        }
        x.server(0, false);
        due("of one that is down, too", x.copy(0, 1, 0), 0);
    }

    private static void vectorOfACopy() {
        given("Promise 16: vector", "Count k (0 .. N + 3) of the VECTOR of a server's COPY (version = NO)", 3);
        files(0);
        near(0, 1, 2);
        x.write(0, 1, 5, 0);
        near(0, 1);
        x.write(0, 1, 5, 0);
        int[] due = {1, 3, 2, 0, 0, 0, 0};
        for (int k = 0; k < 7; k++) {
            due("count " + k, x.vector(1, 1, -1, k), due[k]);
        }
    }

    private static void vectorOfAVersion() {
        given("Promise 16: vector", "or of a VERSION of it", 2);
        x.make(0, 0, 0, false);
        near(0);
        x.write(0, 1, 5, 0);
        x.write(1, 1, 6, 0);
        near(0, 1);
        x.handIn(0);
        int[] first = {1, 1, 0, 0, 0, 0};
        int[] second = {0, 0, 1, 0, 0, 0};
        int[] copy = {1, 2, 1, 0, 0, 0};
        for (int k = 0; k < 6; k++) {
            due("version 0, count " + k, x.vector(1, 1, 0, k), first[k]);
            due("version 1, count " + k, x.vector(1, 1, 1, k), second[k]);
            due("copy, count " + k, x.vector(1, 1, NO, k), copy[k]);
        }
        due("no version 2", x.vector(1, 1, 2, 0), NONE);
    }

    private static void vectorOfNone() {
        given("Promise 16: vector", "NONE without.", 1);
        x.make(0, 0, 0, false);
        for (int k = 0; k < 5; k++) {
            due("never made", x.vector(0, 2, NO, k), NONE);
            due("no version", x.vector(0, 1, 0, k), NONE);
            due("no version", x.vector(0, 1, -2, k), NONE);
            due("no version", x.vector(0, 1, Integer.MIN_VALUE, k), NONE);
            due("no version", x.vector(0, 1, Integer.MAX_VALUE, k), NONE);
            due("a directory has none", x.vector(0, 0, 0, k), NONE);
            due("no version of what was never made", x.vector(0, 47, 0, k), NONE);
        }
        x.remove(0, 0, 1);
        due("dropped", x.vector(0, 1, NO, 0), NONE);
    }

    private static void vectorOfNoCount() {
        for (int n = 1; n <= 4; n++) {
            int most = n + 3;
            given("Promise 16: vector", "IndexOutOfBoundsException: also of k.", n);
            due("the last one", x.vector(0, 0, NO, most), 0);
            outOfBounds("one more", () -> x.vector(0, 0, NO, most + 1));
            outOfBounds("-1", () -> x.vector(0, 0, NO, -1));
            outOfBounds("least", () -> x.vector(0, 0, NO, Integer.MIN_VALUE));
            outOfBounds("greatest", () -> x.vector(0, 0, NO, Integer.MAX_VALUE));
            outOfBounds("without a copy, too", () -> x.vector(0, 5, NO, most + 1));
            outOfBounds("without a version, too", () -> x.vector(0, 0, 3, -1));
        }
    }

    private static void versionValueAndSize() {
        given("Promise 17: version", "VALUE (what = 0), SIZE (1) of a VERSION", 2);
        x.make(0, 0, 0, false);
        near(0, 0);
        near(1, 1);
        x.write(0, 1, 10, 3);
        x.write(1, 1, 20, 6);
        x.meet(0);
        for (int s = 0; s < 2; s++) {
            due("value 0", x.version(s, 1, 0, 0), 10);
            due("size 0", x.version(s, 1, 0, 1), 3);
            due("value 1", x.version(s, 1, 1, 0), 20);
            due("size 1", x.version(s, 1, 1, 1), 6);
            due("no third", x.version(s, 1, 2, 0), NONE);
            due("no third", x.version(s, 1, 2, 1), NONE);
        }
        x.repair(0, 1, 0);
        due("none any more", x.version(0, 1, 0, 0), NONE);
    }

    private static void versionOfNone() {
        given("Promise 17: version", "NONE without.", 1);
        x.make(0, 0, 0, false);
        for (int what = 0; what < 2; what++) {
            due("no conflict", x.version(0, 1, 0, what), NONE);
            due("the copy is none", x.version(0, 1, NO, what), NONE);
            due("a directory", x.version(0, 0, 0, what), NONE);
            due("never made", x.version(0, 47, 0, what), NONE);
            due("least", x.version(0, 1, Integer.MIN_VALUE, what), NONE);
            due("greatest", x.version(0, 1, Integer.MAX_VALUE, what), NONE);
        }
    }

    private static void entryByNumbers() {
        given("Promise 18: entry",
                "ENTRY i, by the numbers of objects, of a server's DIRECTORY: the object (what = 0), its NAME (1),"
                + " whether it is GONE (2; 1, 0)", 2);
        near(0, 0);
        near(1, 1);
        x.make(1, 0, 15, false);
        x.make(0, 0, 3, true);
        x.make(0, 2, 9, false);
        x.make(1, 0, 0, false);
        x.remove(1, 0, 4);
        x.meet(0);
        int[][] due = {{1, 15, 0}, {2, 3, 0}, {4, 0, 1}};
        for (int s = 0; s < 2; s++) {
            for (int i = 0; i < 3; i++) {
                for (int what = 0; what < 3; what++) {
                    due("entry " + i + " " + what, x.entry(s, 0, i, what), due[i][what]);
                }
            }
            due("in the directory", x.entry(s, 2, 0, 0), 3);
            due("in the directory", x.entry(s, 2, 0, 1), 9);
            due("in the directory", x.entry(s, 2, 0, 2), 0);
        }
    }

    private static void entryOfNone() {
        given("Promise 18: entry", "NONE without.", 2);
        near(0, 0);
        x.make(0, 0, 3, true);
        x.make(0, 0, 3, false);
        for (int what = 0; what < 3; what++) {
            due("behind the last", x.entry(0, 0, 2, what), NONE);
            due("-1", x.entry(0, 0, -1, what), NONE);
            due("least", x.entry(0, 0, Integer.MIN_VALUE, what), NONE);
            due("greatest", x.entry(0, 0, Integer.MAX_VALUE, what), NONE);
            due("empty", x.entry(0, 1, 0, what), NONE);
            due("a file", x.entry(0, 2, 0, what), NONE);
            due("no copy", x.entry(1, 1, 0, what), NONE);
            due("not known at 1", x.entry(1, 0, 0, what), NONE);
            due("never made", x.entry(0, 47, 0, what), NONE);
        }
    }

    private static void cachedFile() {
        given("Promise 19: cached",
                "Of a COPY in a client's CACHE: VALUE, or how many ENTRIES are THERE (what = 0), SIZE (1),"
                + " the servers that PROMISED as bits (2), whether it is DIRTY (3), GOOD (4)", 4);
        x.make(0, 0, 0, false);
        x.write(0, 1, -9, 4);
        long[] near = {-9, 4, 15, 0, 1};
        for (int what = 0; what < 5; what++) {
            due("near, what " + what, x.cached(0, 1, what), near[what]);
        }
        x.link(1, 4, false);
        due("without 1", x.cached(0, 1, 2), 13);
        near(0);
        x.write(0, 1, 10, 5);
        long[] alone = {10, 5, 0, 1, 0};
        for (int what = 0; what < 5; what++) {
            due("alone, what " + what, x.cached(0, 1, what), alone[what]);
        }
    }

    private static void cachedDirectory() {
        given("Promise 19: cached", "VALUE, or how many ENTRIES are THERE (what = 0)", 2);
        files(0, 0, 0);
        x.remove(3, 0, 2);
        x.find(0, 0, 0);
        long[] near = {2, 0, 3, 0, 1};
        for (int what = 0; what < 5; what++) {
            due("near, what " + what, x.cached(0, 0, what), near[what]);
        }
        x.read(0, 3);
        near(0);
        x.remove(0, 0, 3);
        long[] alone = {1, 0, 0, 1, 0};
        for (int what = 0; what < 5; what++) {
            due("alone, what " + what, x.cached(0, 0, what), alone[what]);
        }
    }

    private static void cachedOfNone() {
        given("Promise 19: cached", "NONE without.", 1);
        files(0, 0);
        x.read(0, 1);
        x.remove(0, 0, 1);
        for (int what = 0; what < 5; what++) {
            due("not kept", x.cached(0, 2, what), NONE);
            due("removed", x.cached(0, 1, what), NONE);
            due("never made", x.cached(0, 3, what), NONE);
            due("never made", x.cached(0, 47, what), NONE);
            due("the root of another client", x.cached(1, 0, what), NONE);
        }
    }

    private static void recordKinds() {
        given("Promise 20: record",
                "RECORD i of a client's LOG: 0 WRITE, 1 MAKE, 2 REMOVE (what = 0), the object (1), the DIRECTORY, NO of WRITE (2)", 1);
        x.make(2, 0, 0, true);
        x.make(2, 1, 0, false);
        x.make(2, 1, 0, false);
        near(2);
        x.remove(2, 1, 2);
        x.make(2, 1, 0, false);
        x.write(2, 3, 5, 0);
        records(2, 2, 2, 1, 1, 4, 1, 0, 3, NO);
        records(0);
        records(1);
        records(3);
    }

    private static void recordOfNone() {
        given("Promise 20: record", "NONE without.", 1);
        x.find(0, 0, 0);
        near(0);
        x.make(0, 0, 0, false);
        for (int what = 0; what < 3; what++) {
            due("behind the last", x.record(0, 1, what), NONE);
            due("12", x.record(0, 12, what), NONE);
            due("-1", x.record(0, -1, what), NONE);
            due("least", x.record(0, Integer.MIN_VALUE, what), NONE);
            due("greatest", x.record(0, Integer.MAX_VALUE, what), NONE);
            due("of another client", x.record(1, 0, what), NONE);
        }
    }

    private static void toldMade() {
        given("Promise 21: told", "How much in all: objects made (0)", 2);
        due("the root is none", x.told(0), 0);
        x.make(0, 0, 0, false);
        x.remove(0, 0, 1);
        due("a removed one is one", x.told(0), 1);
        near(0);
        x.make(0, 0, 0, true);
        x.remove(0, 0, 2);
        due("one that is in no log any more is one", x.told(0), 2);
        x.make(1, 9, 0, true);
        due("a refused one is none", x.told(0), 2);
    }

    private static void toldActs() {
        given("Promise 21: told",
                "acts of WRITE, MAKE, REMOVE that servers did, each at each of them (1; a RECORD that becomes a VERSION is none)", 3);
        x.make(0, 0, 0, false);
        due("made at 3", x.told(1), 3);
        x.read(1, 1);
        near(0, 0, 1);
        x.write(0, 1, 5, 0);
        due("written at 2", x.told(1), 5);
        near(1);
        x.write(1, 1, 6, 0);
        due("alone is none", x.told(1), 5);
        nearAll(1);
        x.handIn(1);
        due("a version is none", x.told(1), 5);
        x.meet(0);
        due("a meeting is none", x.told(1), 5);
        nearAll(0);
        x.repair(0, 1, 1);
        due("a repair is none", x.told(1), 5);
        x.remove(0, 0, 1);
        due("removed at 3", x.told(1), 8);
        near(0);
        x.make(0, 0, 0, false);
        x.write(0, 2, 7, 0);
        near(0, 1, 2);
        x.handIn(0);
        due("made and written at 2", x.told(1), 12);
    }

    private static void toldLost() {
        given("Promise 21: told", "LOST (2; RECORDS, VERSIONS)", 2);
        x.make(0, 0, 0, true);
        x.make(0, 1, 0, false);
        near(0);
        x.make(0, 1, 0, false);
        x.write(0, 2, 5, 0);
        x.write(0, 3, 5, 0);
        x.remove(1, 1, 2);
        x.remove(1, 0, 1);
        nearAll(0);
        due("none yet", x.told(2), 0);
        due("three", x.handIn(0), 3);
        due("a make and two writes", x.told(2), 3);
    }

    private static void toldRefused() {
        given("Promise 21: told", "REFUSED (3)", 1);
        x.make(0, 0, 0, false);
        x.make(0, 0, 0, false);
        near(0);
        x.remove(0, 0, 1);
        x.remove(0, 0, 2);
        x.write(1, 1, 5, 0);
        x.write(1, 2, 5, 0);
        nearAll(0);
        due("none yet", x.told(3), 0);
        x.handIn(0);
        due("two", x.told(3), 2);
        due("they are not lost", x.told(2), 0);
    }

    private static void toldPhases() {
        given("Promise 21: told", "second phases LOST (4)", 2);
        x.lose(0);
        x.lose(1);
        due("none yet", x.told(4), 0);
        near(0, 1);
        x.make(0, 0, 0, false);
        due("at 1", x.told(4), 1);
        near(0, 0);
        x.make(0, 0, 0, false);
        due("at 0", x.told(4), 2);
        x.make(0, 0, 0, false);
        due("no more", x.told(4), 2);
    }

    private static void toldCame() {
        given("Promise 21: told", "COPIES that came from servers into CACHES (5)", 2);
        x.make(0, 0, 0, false);
        due("the root; not what was made", x.told(5), 1);
        x.write(0, 1, 5, 0);
        due("not what was written", x.told(5), 1);
        x.read(1, 1);
        x.read(2, 1);
        due("one for each client", x.told(5), 3);
        x.read(1, 1);
        due("not a good one", x.told(5), 3);
        x.write(1, 1, 6, 0);
        x.read(2, 1);
        due("in place of what was there", x.told(5), 4);
        x.read(1, 9);
        x.read(1, 0);
        due("not what was not got", x.told(5), 4);
        near(2);
        x.read(2, 1);
        due("not alone", x.told(5), 4);
    }

    private static void toldWent() {
        given("Promise 21: told", "what went out to make ROOM for others (6; not what goes because there is no ROOM for itself)", 1);
        for (int i = 0; i < 4; i++) {
            x.make(0, 0, 0, false);
        }
        x.write(0, 1, 1, 6);
        x.write(0, 2, 2, 6);
        x.write(0, 3, 3, 6);
        due("just 24", x.told(6), 0);
        x.write(0, 4, 4, 1);
        due("the root went", x.told(6), 1);
        due("the root went", isKept(0, 0), false);
        x.remove(0, 0, 4);
        due("1 went for the root, 4 was removed", x.told(6), 2);
        for (int f = 1; f <= 3; f++) {
            x.priority(1, f, 1);
        }
        x.priority(1, 0, 1);
        due("23", x.walk(1), 4);
        x.make(2, 0, 0, false);
        x.priority(1, 5, 1);
        due("24", x.walk(1), 5);
        x.write(2, 5, 5, 3);
        int went = x.told(6);
        due("5 goes, as there is no room for itself", x.walk(1), 4);
        due("so it is not told", x.told(6), went);
        x.write(2, 1, 1, 0);
        x.read(1, 1);
        near(1);
        x.remove(1, 0, 3);
        x.read(1, 2);
        due("nor what is removed alone", x.told(6), went);
    }

    private static void toldAlike() {
        given("Promise 21: told", "whether the servers that are UP have all COPIES alike (7; 1, 0)", 2);
        due("at first", x.told(7), 1);
        x.make(0, 0, 0, false);
        due("made at both", x.told(7), 1);
        x.lose(1);
        x.write(0, 1, 5, 0);
        due("another vector", x.told(7), 0);
        x.meet(0);
        due("met", x.told(7), 1);
        near(0, 1);
        x.write(0, 1, 6, 0);
        due("another value", x.told(7), 0);
        x.meet(0);
        x.make(0, 0, 0, false);
        due("a copy and an entry at 1 alone", x.told(7), 0);
        x.meet(0);
        x.remove(0, 0, 2);
        due("gone at 1 alone", x.told(7), 0);
        x.meet(0);
        due("met", x.told(7), 1);
        x.read(2, 1);
        near(2);
        x.write(2, 1, 7, 0);
        x.write(1, 1, 8, 0);
        near(2, 0);
        x.handIn(2);
        due("versions at 0 alone", x.told(7), 0);
        x.meet(0);
        due("versions at both", x.told(7), 1);
    }

    private static void toldAlikeWithoutACopy() {
        given("Promise 21: told", "whether the servers that are UP have all COPIES alike (7; 1, 0)", 2);
        files(2);
        near(0, 1);
        x.write(0, 1, 9, 5);
        nearAll(0);
        due("both drop what they have, which is not alike", x.remove(0, 0, 1), 2);
        due("both have none", x.told(7), 1);
        near(0, 0);
        x.make(0, 0, 0, false);
        x.write(0, 2, 7, 3);
        x.remove(0, 0, 2);
        due("the entry is at 0 alone", x.told(7), 0);
        due("root 2", x.meet(0), 2);
        due("1 never had one, 0 has none any more", x.told(7), 1);
    }

    private static void toldAlikeOfThoseThatAreUp() {
        given("Promise 21: told", "whether the servers that are UP have all COPIES alike (7; 1, 0)", 3);
        near(0, 1);
        x.make(0, 0, 0, false);
        due("1 has another one", x.told(7), 0);
        x.link(0, 1, false);
        x.link(1, 2, false);
        due("links do not matter", x.told(7), 0);
        x.server(1, false);
        due("0 and 2", x.told(7), 1);
        x.server(0, false);
        due("2 alone", x.told(7), 1);
        x.server(1, true);
        due("1 and 2", x.told(7), 0);
        x.server(2, false);
        due("1 alone", x.told(7), 1);
        x.server(1, false);
        due("none has another one than any", x.told(7), 1);
    }

    private static void toldAnother() {
        given("Promise 21: told", "IndexOutOfBoundsException.", 1);
        for (int what = 0; what < 7; what++) {
            due("at first", x.told(what), 0);
        }
        due("at first", x.told(7), 1);
        outOfBounds("8", () -> x.told(8));
        outOfBounds("-1", () -> x.told(-1));
        outOfBounds("least", () -> x.told(Integer.MIN_VALUE));
        outOfBounds("greatest", () -> x.told(Integer.MAX_VALUE));
    }

    private static void noSuchServer() {
        for (int n = 1; n <= 4; n++) {
            given(END, "IndexOutOfBoundsException: there is no such server", n);
            int[] none = {Integer.MIN_VALUE, -1, n, 4, 7, Integer.MAX_VALUE};
            for (int s : none) {
                outOfBounds("link " + s, () -> x.link(s, 4, false));
                outOfBounds("server " + s, () -> x.server(s, false));
                outOfBounds("lose " + s, () -> x.lose(s));
                outOfBounds("meet " + s, () -> x.meet(s));
                outOfBounds("copy " + s, () -> x.copy(s, 0, 0));
                outOfBounds("vector " + s, () -> x.vector(s, 0, NO, 0));
                outOfBounds("version " + s, () -> x.version(s, 0, 0, 0));
                outOfBounds("entry " + s, () -> x.entry(s, 0, 0, 0));
            }
            int[] noOther = {Integer.MIN_VALUE, -1, n == 4 ? 8 : n, n < 3 ? 3 : 8, 8, Integer.MAX_VALUE};
            for (int o : noOther) {
                outOfBounds("link to " + o, () -> x.link(0, o, false));
            }
        }
    }

    private static void noSuchClient() {
        given(END, "IndexOutOfBoundsException: there is no such server, client", 2);
        int[] none = {Integer.MIN_VALUE, -1, 4, 5, 7, Integer.MAX_VALUE};
        for (int c : none) {
            outOfBounds("priority " + c, () -> x.priority(c, 0, 0));
            outOfBounds("find " + c, () -> x.find(c, 0, 0));
            outOfBounds("read " + c, () -> x.read(c, 0));
            outOfBounds("write " + c, () -> x.write(c, 0, 0, 0));
            outOfBounds("make " + c, () -> x.make(c, 0, 0, false));
            outOfBounds("remove " + c, () -> x.remove(c, 0, 0));
            outOfBounds("handIn " + c, () -> x.handIn(c));
            outOfBounds("walk " + c, () -> x.walk(c));
            outOfBounds("repair " + c, () -> x.repair(c, 0, 0));
            outOfBounds("cached " + c, () -> x.cached(c, 0, 0));
            outOfBounds("record " + c, () -> x.record(c, 0, 0));
        }
    }

    private static void noSuchObject() {
        given(END, "object (0 .. 47)", 2);
        for (int o : ODD) {
            outOfBounds("priority " + o, () -> x.priority(0, o, 0));
            outOfBounds("find " + o, () -> x.find(0, o, 0));
            outOfBounds("read " + o, () -> x.read(0, o));
            outOfBounds("write " + o, () -> x.write(0, o, 0, 0));
            outOfBounds("make " + o, () -> x.make(0, o, 0, false));
            outOfBounds("remove in " + o, () -> x.remove(0, o, 0));
            outOfBounds("remove " + o, () -> x.remove(0, 0, o));
            outOfBounds("repair " + o, () -> x.repair(0, o, 0));
            outOfBounds("copy " + o, () -> x.copy(0, o, 0));
            outOfBounds("vector " + o, () -> x.vector(0, o, NO, 0));
            outOfBounds("version " + o, () -> x.version(0, o, 0, 0));
            outOfBounds("entry " + o, () -> x.entry(0, o, 0, 0));
            outOfBounds("cached " + o, () -> x.cached(0, o, 0));
        }
        due("47 is one", x.priority(0, 47, 0), 0);
        due("47 is one", x.read(0, 47), NONE);
        due("47 is one", x.copy(0, 47, 0), NONE);
        due("47 is one", x.cached(0, 47, 0), NONE);
    }

    private static void anotherWhat() {
        given(END, "or another what.", 2);
        x.make(0, 0, 0, false);
        int[] odd = {Integer.MIN_VALUE, -1, 8, Integer.MAX_VALUE};
        for (int what : odd) {
            outOfBounds("copy " + what, () -> x.copy(0, 0, what));
            outOfBounds("version " + what, () -> x.version(0, 0, 0, what));
            outOfBounds("entry " + what, () -> x.entry(0, 0, 0, what));
            outOfBounds("cached " + what, () -> x.cached(0, 0, what));
            outOfBounds("record " + what, () -> x.record(0, 0, what));
            outOfBounds("told " + what, () -> x.told(what));
        }
        outOfBounds("copy 5", () -> x.copy(0, 0, 5));
        outOfBounds("copy 5 of none", () -> x.copy(0, 9, 5));
        outOfBounds("version 2", () -> x.version(0, 1, 0, 2));
        outOfBounds("entry 3", () -> x.entry(0, 0, 0, 3));
        outOfBounds("entry 3 of none", () -> x.entry(0, 0, 9, 3));
        outOfBounds("cached 5", () -> x.cached(0, 0, 5));
        outOfBounds("cached 5 of none", () -> x.cached(1, 0, 5));
        outOfBounds("record 3", () -> x.record(0, 0, 3));
    }

    private static void aRefusedCallChangesNothing() {
        given(END, "IndexOutOfBoundsException: there is no such server, client, object (0 .. 47), or another what.", 2);
        x.make(0, 0, 0, false);
        x.write(0, 1, 5, 0);
        outOfBounds("link", () -> x.link(0, 8, false));
        outOfBounds("server", () -> x.server(2, false));
        outOfBounds("lose", () -> x.lose(2));
        outOfBounds("write", () -> x.write(0, 48, 9, 0));
        illegal("write", () -> x.write(0, 1, 9, 7));
        illegal("make", () -> x.make(0, 0, 16, false));
        illegal("priority", () -> x.priority(0, 1, 10));
        outOfBounds("remove", () -> x.remove(0, 0, 48));
        values(1, 5, 5);
        vector(0, 1, NO, 1, 1);
        vector(0, 0, NO, 1, 1);
        due("made", x.told(0), 1);
        due("acts", x.told(1), 4);
        due("lost", x.lose(0), true);
        due("priority", x.priority(0, 1, 0), 0);
        due("good", x.cached(0, 1, 4), 1);
        due("link", x.link(0, 1, true), false);
        due("server", x.server(1, true), false);
    }

    private static void anIndexIsLookedAtFirst() {
        given("The public face", "throws IndexOutOfBoundsException, IllegalArgumentException;", 1);
        outOfBounds("priority", () -> x.priority(4, 0, 10));
        outOfBounds("priority", () -> x.priority(0, 48, 10));
        outOfBounds("find", () -> x.find(4, 0, 16));
        outOfBounds("find", () -> x.find(0, 48, 16));
        outOfBounds("write", () -> x.write(4, 0, 0, 7));
        outOfBounds("write", () -> x.write(0, 48, 0, 7));
        outOfBounds("make", () -> x.make(4, 0, 16, true));
        outOfBounds("make", () -> x.make(0, 48, 16, true));
    }

    private static void namedAnswers() {
        given(END, "Answers of calls below -(2^40) are those with a name here.", 1);
        long[] all = {NONE, MISS, GONE, APART, CONFLICT, FULL, NO_ROOM, WRONG, IS_ALONE};
        for (int i = 0; i < all.length; i++) {
            due("name " + i, all[i], -(1L << 41) - i);
            due("below", all[i] < -(1L << 40), true);
        }
        due("NO", NO, -1);
        x.make(0, 0, 0, false);
        x.write(0, 1, Integer.MIN_VALUE, 0);
        due("a value is above", x.read(0, 1) > -(1L << 40), true);
    }

    private static void wrongAheadOfGetting() {
        given(END, "Of a DIRECTORY where a FILE is wanted, or the other way: WRONG (ahead of what getting answers)", 2);
        x.make(3, 0, 0, true);
        x.make(3, 0, 0, false);
        near(0, 0);
        near(1, 1);
        x.make(0, 1, 0, false);
        x.make(1, 1, 0, false);
        x.write(0, 2, 5, 0);
        x.write(1, 2, 6, 0);
        wrongKinds("apart", 2);
        near(2);
        wrongKinds("a miss", 2);
        x.meet(0);
        nearAll(2);
        due("conflict", x.read(2, 2), CONFLICT);
        wrongKinds("conflict", 2);
        x.repair(2, 2, 0);
        x.remove(2, 0, 2);
        x.remove(2, 1, 3);
        x.remove(2, 1, 4);
        x.remove(2, 0, 1);
        due("gone", x.read(2, 2), GONE);
        due("gone", x.find(2, 1, 0), GONE);
        wrongKinds("gone", 2);
    }

    /** Object 1 is a directory, 2 a file. */
    private static void wrongKinds(String state, int client) {
        due("read, " + state, x.read(client, 1), WRONG);
        due("write, " + state, x.write(client, 1, 0, 0), WRONG);
        due("repair, " + state, x.repair(client, 1, 0), WRONG);
        due("find, " + state, x.find(client, 2, 0), WRONG);
        due("make, " + state, x.make(client, 2, 0, false), WRONG);
        due("remove, " + state, x.remove(client, 2, 1), WRONG);
        due("remove of what was never made, " + state, x.remove(client, 2, 40), WRONG);
    }

    private static void neverMade() {
        given(END, "an object that was never made: NONE (where it is to be got", 2);
        for (int round = 0; round < 2; round++) {
            for (int o = 1; o <= 47; o += 23) {
                due("find", x.find(0, o, 0), NONE);
                due("read", x.read(0, o), NONE);
                due("write", x.write(0, o, 0, 0), NONE);
                due("make", x.make(0, o, 0, false), NONE);
                due("remove", x.remove(0, o, 0), NONE);
                due("repair", x.repair(0, o, 0), NONE);
            }
            near(0);
        }
        due("one that was made alone is made", x.find(1, 0, 0), NONE);
        near(1);
        x.make(1, 0, 0, false);
        due("for others it is gone", x.read(2, 1), GONE);
        due("for others it is gone", x.write(2, 1, 0, 0), GONE);
    }

    private static void neverMadeOfRemove() {
        given(END, "of remove() behind getting the DIRECTORY)", 2);
        int came = x.told(5);
        due("the directory is got", x.remove(0, 0, 47), NONE);
        due("the directory is got", x.told(5), came + 1);
        near(1);
        due("miss is ahead", x.remove(1, 0, 47), MISS);
        near(2, 0);
        near(3, 1);
        x.make(2, 0, 0, false);
        x.make(3, 0, 0, true);
        due("apart is ahead", x.remove(0, 0, 47), APART);
        x.meet(0);
        x.remove(0, 0, 2);
        due("gone is ahead", x.remove(0, 2, 47), GONE);
        due("wrong is ahead", x.remove(0, 1, 47), WRONG);
    }
}
