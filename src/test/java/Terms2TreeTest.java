/** 2 THE TREE, sentence by sentence. */
public final class Terms2TreeTest extends Sentences {
    private static final String HERE = "Terms 2 THE TREE";

    public static void main(String[] args) {
        theRoot();
        numbersOneTo47();
        numbersWhereverItIsMade();
        aNumberIsNotUsedAgain();
        aRootAtFirst();
        mayHaveACopy();
        aNewFile();
        valueIsAnInt();
        sizes();
        twoVersionsAtLeast();
        sixVersionsAtMost();
        valueOfTheFirstVersion();
        entriesAsFarAsItKnows();
        names();
        thereOrGone();
        aGoneOneHasAVector();
        severalOfOneName();
        end("Terms 2");
    }

    private static void theRoot() {
        given(HERE, "0 is the ROOT, a DIRECTORY", 1);
        due("a directory", x.find(0, 0, 0), NONE);
        due("no file", x.read(0, 0), WRONG);
        due("not made", x.told(0), 0);
        due("in no directory", x.remove(0, 0, 0), NONE);
    }

    private static void numbersOneTo47() {
        given(HERE, "others are 1 .. 47, as they are made", 2);
        for (int o = 1; o <= 47; o++) {
            due("never made yet", x.read(0, o), NONE);
            due("made", x.make(o % 4, 0, 0, o % 2 == 0), o);
        }
        due("none more", x.make(0, 0, 0, false), FULL);
        due("47", x.told(0), 47);
        due("the last one is a file", x.write(0, 47, 5, 1), 2);
    }

    private static void numbersWhereverItIsMade() {
        given(HERE, "as they are made, wherever that is", 2);
        x.find(0, 0, 0);
        x.find(1, 0, 0);
        near(0);
        near(1);
        near(2, 0);
        near(3, 1);
        due("client 0, alone", x.make(0, 0, 0, false), 1);
        due("client 1, alone", x.make(1, 0, 0, true), 2);
        due("client 2, at server 0", x.make(2, 0, 0, false), 3);
        due("client 3, at server 1", x.make(3, 0, 0, false), 4);
        due("client 0 again", x.make(0, 0, 0, false), 5);
        due("all are made", x.told(0), 5);
        entries(0, 0, 3);
        entries(1, 0, 4);
    }

    private static void aNumberIsNotUsedAgain() {
        given(HERE, "as they are made, wherever that is", 1);
        x.make(0, 0, 0, false);
        x.remove(0, 0, 1);
        due("behind one that was removed", x.make(0, 0, 0, false), 2);
        near(0);
        due("alone", x.make(0, 0, 0, false), 3);
        x.remove(0, 0, 3);
        due("behind one that is in no log any more", x.make(0, 0, 0, false), 4);
    }

    private static void aRootAtFirst() {
        for (int n = 1; n <= 4; n++) {
            given(HERE, "at first each has one of the ROOT, without ENTRIES.", n);
            for (int s = 0; s < n; s++) {
                entries(s, 0);
                due("none is there", x.copy(s, 0, 4), 0);
                vector(s, 0, NO);
                due("no other one", x.copy(s, 1, 0), NONE);
            }
        }
    }

    private static void mayHaveACopy() {
        given(HERE, "Each server may have a COPY of an object, with a VECTOR", 2);
        near(0, 1);
        x.make(0, 0, 1, false);
        due("server 0 has none", x.copy(0, 1, 0), NONE);
        due("and no vector", x.vector(0, 1, NO, 0), NONE);
        vector(1, 1, NO);
        x.write(0, 1, 5, 1);
        vector(1, 1, NO, 0, 1);
    }

    private static void aNewFile() {
        given(HERE, "A FILE's COPY has a VALUE (an int) and a SIZE (0 .. 6), both 0 of a new one.", 2);
        x.make(0, 0, 1, false);
        for (int s = 0; s < 2; s++) {
            due("value", x.copy(s, 1, 0), 0);
            due("size", x.copy(s, 1, 1), 0);
        }
        due("value in the cache", x.cached(0, 1, 0), 0);
        due("size in the cache", x.cached(0, 1, 1), 0);
    }

    private static void valueIsAnInt() {
        given(HERE, "A FILE's COPY has a VALUE (an int)", 1);
        x.make(0, 0, 1, false);
        int[] values = {Integer.MIN_VALUE, Integer.MAX_VALUE, -1, 0, 1};
        for (int value : values) {
            x.write(0, 1, value, 0);
            due("at the server", x.copy(0, 1, 0), value);
            due("to its writer", x.read(0, 1), value);
            due("to another one", x.read(1, 1), value);
            due("in the cache", x.cached(1, 1, 0), value);
        }
    }

    private static void sizes() {
        given(HERE, "and a SIZE (0 .. 6)", 1);
        x.make(0, 0, 1, false);
        for (int size = 0; size <= 6; size++) {
            due("write", x.write(0, 1, 1, size), 1);
            due("size", x.copy(0, 1, 1), size);
        }
        illegal("size 7", () -> x.write(0, 1, 1, 7));
        illegal("size -1", () -> x.write(0, 1, 1, -1));
        due("size is as it was", x.copy(0, 1, 1), 6);
    }

    private static void twoVersionsAtLeast() {
        given(HERE, "It is in CONFLICT if it has VERSIONS: 2 to 6 of VALUE, SIZE, VECTOR", 2);
        x.make(0, 0, 1, false);
        near(0);
        x.write(0, 1, 10, 1);
        x.write(1, 1, 20, 2);
        due("none", x.copy(0, 1, 2), 0);
        near(0, 0);
        x.handIn(0);
        versions(0, 1, 20, 10);
        due("size", x.version(0, 1, 0, 1), 2);
        due("size", x.version(0, 1, 1, 1), 1);
        vector(0, 1, 0, 1, 1);
        vector(0, 1, 1, 0, 0, 1);
        due("in conflict", x.read(2, 1), CONFLICT);
        due("server 1 is not", x.copy(1, 1, 2), 0);
    }

    private static void sixVersionsAtMost() {
        given(HERE, "It is in CONFLICT if it has VERSIONS: 2 to 6", 2);
        x.make(0, 0, 1, false);
        near(0);
        x.write(0, 1, 1, 1);
        x.write(1, 1, 100, 1);
        for (int told = 1; told <= 5; told++) {
            near(0, 0);
            x.handIn(0);
            due("versions", x.copy(0, 1, 2), told + 1);
            near(0, 1);
            x.read(0, 1);
            near(0);
            x.write(0, 1, told + 1, 1);
        }
        near(0, 0);
        x.handIn(0);
        versions(0, 1, 100, 1, 2, 3, 4, 5);
        due("the seventh is lost", x.told(2), 1);
    }

    private static void valueOfTheFirstVersion() {
        given(HERE, "its VALUE and SIZE are those of the first one then.", 3);
        x.make(0, 0, 1, false);
        for (int s = 2; s >= 0; s--) {
            near(0, s);
            x.write(0, 1, 50 + s, 4 + s - 2);
        }
        x.meet(1);
        for (int s = 0; s < 3; s++) {
            due("value", x.copy(s, 1, 0), 50);
            due("size", x.copy(s, 1, 1), 2);
            versions(s, 1, 50, 51, 52);
        }
    }

    private static void entriesAsFarAsItKnows() {
        given(HERE, "A DIRECTORY's COPY has ENTRIES, one for each object that was made in it, as far as it knows", 2);
        x.make(0, 0, 1, true);
        x.make(0, 1, 2, false);
        x.make(0, 1, 2, false);
        entries(0, 0, 1);
        entries(0, 1, 2, 3);
        near(0, 0);
        x.make(0, 1, 3, false);
        x.remove(0, 1, 2);
        entries(0, 1, -2, 3, 4);
        entries(1, 1, 2, 3);
        x.meet(0);
        entries(1, 1, -2, 3, 4);
    }

    private static void names() {
        given(HERE, "the object, its NAME (0 .. 15)", 1);
        for (int name = 0; name <= 15; name++) {
            x.make(0, 0, name, name % 2 == 0);
        }
        for (int name = 0; name <= 15; name++) {
            due("name", x.entry(0, 0, name, 1), name);
            due("found", x.find(1, 0, name), name + 1);
        }
        illegal("16", () -> x.make(0, 0, 16, false));
        illegal("-1", () -> x.make(0, 0, -1, false));
        due("nothing was made", x.told(0), 16);
    }

    private static void thereOrGone() {
        given(HERE, "and whether it is THERE or GONE", 1);
        x.make(0, 0, 1, false);
        entries(0, 0, 1);
        x.remove(0, 0, 1);
        entries(0, 0, -1);
        due("none is there", x.copy(0, 0, 4), 0);
    }

    private static void aGoneOneHasAVector() {
        given(HERE, "a GONE one has a VECTOR.", 2);
        files(0, 0);
        near(0, 0);
        near(1, 1);
        x.write(1, 2, 9, 1);
        x.remove(0, 0, 1);
        x.remove(0, 0, 2);
        x.meet(0);
        entries(0, 0, -1, 2);
        entries(1, 0, -1, 2);
        values(1, NONE, NONE);
        values(2, 9, 9);
    }

    private static void severalOfOneName() {
        given(HERE, "Several that are THERE may have one NAME.", 2);
        near(0, 0);
        near(1, 1);
        x.make(0, 0, 7, false);
        due("again", x.make(0, 0, 7, true), 2);
        x.make(1, 0, 7, false);
        x.meet(0);
        entries(0, 0, 1, 2, 3);
        entries(1, 0, 1, 2, 3);
        due("the least", x.find(2, 0, 7), 1);
        x.remove(2, 0, 1);
        due("then the next", x.find(2, 0, 7), 2);
        x.remove(2, 0, 2);
        due("then the last", x.find(2, 0, 7), 3);
    }
}
