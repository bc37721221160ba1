import java.io.IOException;
import java.nio.file.Files;
import java.nio.file.Path;

/**
 * What the tests by sentence share. Each case opens with given(): it names the promise, or the part of the Terms,
 * and quotes the sentence that it is for; the words must stand so in the document.
 */
abstract class Sentences {
    static final long NONE = ReplicaFiles.NONE;
    static final long MISS = ReplicaFiles.MISS;
    static final long GONE = ReplicaFiles.GONE;
    static final long APART = ReplicaFiles.APART;
    static final long CONFLICT = ReplicaFiles.CONFLICT;
    static final long FULL = ReplicaFiles.FULL;
    static final long NO_ROOM = ReplicaFiles.NO_ROOM;
    static final long WRONG = ReplicaFiles.WRONG;
    static final long IS_ALONE = ReplicaFiles.IS_ALONE;
    static final int NO = ReplicaFiles.NO;

    private static final String DOCUMENT = documentOnOneLine();

    /** The object of the case that runs, and how many servers it has. */
    static ReplicaFiles x;
    static int servers;

    private static String sentence = "";
    private static int cases = 0;
    private static int checks = 0;
    private static int wrong = 0;

    interface Call {
        Object run();
    }

    private static String documentOnOneLine() {
        Path document = Path.of("..", "shared", "DOC.md");
        try {
            return Files.exists(document) ? onOneLine(Files.readString(document)) : null;
        } catch (IOException e) {
            return null;
        }
    }

    private static String onOneLine(String text) {
        return text.replaceAll("\\s+", " ");
    }

    static void given(String where, String words, int serverCount) {
        sentence = where + ", \"" + words + "\"";
        cases++;
        due("these words stand in the document", DOCUMENT == null || DOCUMENT.contains(onOneLine(words)), true);
        servers = Math.max(1, Math.min(4, serverCount));
        x = new ReplicaFiles(serverCount);
    }

    static void due(String what, long got, long want) {
        checks++;
        if (got != want) {
            wrong++;
            System.out.println(sentence + ": " + what + ": answered " + got + ", due is " + want);
        }
    }

    static void due(String what, boolean got, boolean want) {
        due(what, got ? 1 : 0, want ? 1 : 0);
    }

    static void outOfBounds(String what, Call call) {
        due(what + " (1 IndexOutOfBoundsException, 2 IllegalArgumentException, 3 another one)", thrownBy(call), 1);
    }

    static void illegal(String what, Call call) {
        due(what + " (1 IndexOutOfBoundsException, 2 IllegalArgumentException, 3 another one)", thrownBy(call), 2);
    }

    private static int thrownBy(Call call) {
        try {
            call.run();
        } catch (RuntimeException e) {
            return e.getClass() == IndexOutOfBoundsException.class ? 1
                    : e.getClass() == IllegalArgumentException.class ? 2 : 3;
        }
        return 0;
    }

    static void end(String test) {
        System.out.println(test + ": " + cases + " cases, " + checks + " checks, " + wrong + " wrong");
        if (wrong != 0) {
            System.exit(1);
        }
    }

    /** From now on just these servers have a link to the client. */
    static void near(int client, int... these) {
        for (int s = 0; s < servers; s++) {
            boolean up = false;
            for (int one : these) {
                up |= one == s;
            }
            x.link(s, 4 + client, up);
        }
    }

    static void nearAll(int client) {
        for (int s = 0; s < servers; s++) {
            x.link(s, 4 + client, true);
        }
    }

    /** All counts of a vector; those that are not written are 0. */
    static void vector(int server, int object, int version, int... counts) {
        for (int k = 0; k < servers + 4; k++) {
            due("vector(" + server + ", " + object + ", " + version + ", " + k + ")",
                    x.vector(server, object, version, k), k < counts.length ? counts[k] : 0);
        }
    }

    /** All entries of a server's directory, in order: an object's number, below 0 when it is gone. */
    static void entries(int server, int directory, int... objects) {
        due("how many entries of " + directory + " at " + server, x.copy(server, directory, 3), objects.length);
        for (int i = 0; i < objects.length; i++) {
            due("entry(" + server + ", " + directory + ", " + i + ", 0)",
                    x.entry(server, directory, i, 0), Math.abs(objects[i]));
            due("entry(" + server + ", " + directory + ", " + i + ", 2)",
                    x.entry(server, directory, i, 2), objects[i] < 0 ? 1 : 0);
        }
    }

    /** All versions of a server's file, by their values. */
    static void versions(int server, int file, int... values) {
        due("how many versions of " + file + " at " + server, x.copy(server, file, 2), values.length);
        for (int i = 0; i < values.length; i++) {
            due("version(" + server + ", " + file + ", " + i + ", 0)", x.version(server, file, i, 0), values[i]);
        }
        if (values.length > 0) {
            due("value of " + file + " at " + server, x.copy(server, file, 0), values[0]);
        }
    }

    /** Value of a file at each server. */
    static void values(int file, long... values) {
        for (int s = 0; s < values.length; s++) {
            due("copy(" + s + ", " + file + ", 0)", x.copy(s, file, 0), values[s]);
        }
    }

    /** Whole log of a client: three numbers a record, as record() tells them. */
    static void records(int client, int... told) {
        for (int i = 0; i < told.length; i++) {
            due("record(" + client + ", " + i / 3 + ", " + i % 3 + ")", x.record(client, i / 3, i % 3), told[i]);
        }
        due("no record behind these", x.record(client, told.length / 3, 0), NONE);
    }

    static boolean isKept(int client, int object) {
        return x.cached(client, object, 3) != NONE;
    }

    /** All that a client keeps, among the objects up to the greatest one written. */
    static void kept(int client, int upTo, int... objects) {
        for (int o = 0; o <= upTo; o++) {
            boolean wanted = false;
            for (int one : objects) {
                wanted |= one == o;
            }
            due("client " + client + " keeps " + o, isKept(client, o), wanted);
        }
    }

    /** Files 1 .. sizes.length in the root, at all servers, of these sizes, with their numbers as values, made by client 3. */
    static void files(int... sizes) {
        for (int i = 0; i < sizes.length; i++) {
            int f = (int) x.make(3, 0, i % 16, false);
            x.write(3, f, f, sizes[i]);
        }
    }

    static void readAll(int client, int... objects) {
        for (int f : objects) {
            x.read(client, f);
        }
    }
}
