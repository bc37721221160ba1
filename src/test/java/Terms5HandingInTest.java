/** 5 HANDING IN, sentence by sentence. */
public final class Terms5HandingInTest extends Sentences {
    private static final String HERE = "Terms 5 HANDING IN";

    public static void main(String[] args) {
        withALogAndServers();
        theLeastOne();
        recordByRecord();
        writeOfNoCopy();
        writeOfTheVector();
        writeAtThoseWithThatVector();
        writeWithALostPhase();
        versionBesideAGreaterOne();
        versionBesideALesserOne();
        versionBesideVersions();
        versionsToldSoFar();
        versionsOfEachClient();
        whatItWasIsTheFirst();
        greaterOfEachCount();
        versionAtTheLeastAlone();
        sixAlready();
        makeWithoutTheDirectory();
        makeAtAllThatHaveTheDirectory();
        makeNotWhereTheDirectoryIsNot();
        makeWithALostPhase();
        removeOfNoCopy();
        removeOfOneNotKnown();
        removeWithoutTheDirectory();
        removeOfOneThatIsGoneThere();
        removeOfTheSameVector();
        removeOfALesserVector();
        removeOfAGreaterVector();
        removeOfVersions();
        removeOfADirectoryWithSome();
        removeOfADirectoryWithGoneOnes();
        removeAtThoseWithTheDirectory();
        removeWithALostPhase();
        goneWithTheRecordsVector();
        promisesEndForAWrite();
        promisesEndForAVersion();
        promisesEndForAMake();
        promisesEndForARemove();
        theLogIsEmpty();
        whatComesBackIsNotDirty();
        end("Terms 5, handing in");
    }

    /** Clients 0 and 1 keep the root and file 1, and client 0 is alone; the servers have it with this vector: all 0. */
    private static void keptByTwo() {
        x.make(0, 0, 1, false);
        x.find(1, 0, 0);
        x.read(1, 1);
        near(0);
    }

    private static void withALogAndServers() {
        given(HERE, "by a client with a LOG and servers that are NEAR", 1);
        due("no log", x.handIn(0), 0);
        keptByTwo();
        due("no server", x.handIn(0), IS_ALONE);
        x.write(0, 1, 5, 0);
        due("no server", x.handIn(0), IS_ALONE);
        records(0, 0, 1, NO);
        due("dirty still", x.cached(0, 1, 3), 1);
        nearAll(0);
        due("one", x.handIn(0), 1);
        values(1, 5);
        due("no log", x.handIn(0), 0);
    }

    private static void theLeastOne() {
        given(HERE, "s is the least one", 3);
        keptByTwo();
        x.write(0, 1, 5, 0);
        near(1, 1);
        x.write(1, 1, 7, 0);
        near(0, 1, 2);
        due("0 is not near, 1 has another vector", x.handIn(0), 1);
        versions(1, 1, 7, 5);
        values(1, 0, 7, 0);
        due("2 has the record's vector, but is not the least", x.copy(2, 1, 2), 0);
    }

    private static void recordByRecord() {
        given(HERE, "RECORD by RECORD", 2);
        x.find(0, 0, 0);
        near(0);
        x.make(0, 0, 1, true);
        x.make(0, 1, 2, true);
        x.make(0, 2, 3, false);
        x.write(0, 3, 9, 4);
        nearAll(0);
        due("four", x.handIn(0), 4);
        for (int s = 0; s < 2; s++) {
            entries(s, 0, 1);
            entries(s, 1, 2);
            entries(s, 2, 3);
            vector(s, 0, NO, 1, 1);
            vector(s, 2, NO, 1, 1);
            vector(s, 3, NO, 1, 1);
        }
        values(3, 9, 9);
        due("4 acts at both", x.told(1), 8);
    }

    private static void writeOfNoCopy() {
        given(HERE, "WRITE: s has no COPY of it: LOST.", 2);
        keptByTwo();
        x.write(0, 1, 5, 0);
        near(1, 0);
        x.remove(1, 0, 1);
        nearAll(0);
        due("one", x.handIn(0), 1);
        due("lost, though 1 has a copy", x.told(2), 1);
        values(1, NONE, 0);
        due("no act but make and remove", x.told(1), 2 + 1);
    }

    private static void writeOfTheVector() {
        given(HERE, "Its VECTOR is the RECORD's, without VERSIONS: WRITTEN as in 4", 2);
        keptByTwo();
        x.write(0, 1, 5, 3);
        nearAll(0);
        x.handIn(0);
        values(1, 5, 5);
        due("size", x.copy(1, 1, 1), 3);
        vector(0, 1, NO, 1, 1);
        vector(1, 1, NO, 1, 1);
        due("no versions", x.copy(0, 1, 2), 0);
        due("acts of make and write", x.told(1), 2 + 2);
    }

    private static void writeAtThoseWithThatVector() {
        given(HERE, "at the SET of those with that VECTOR (and no VERSIONS)", 4);
        keptByTwo();
        x.write(0, 1, 5, 0);
        near(1, 1);
        x.write(1, 1, 7, 0);
        near(0, 0, 1, 2);
        x.handIn(0);
        values(1, 5, 7, 5, 0);
        vector(0, 1, NO, 1, 0, 1, 0);
        vector(1, 1, NO, 0, 1, 0, 0);
        vector(3, 1, NO);
    }

    private static void writeWithALostPhase() {
        given(HERE, "WRITTEN as in 4", 2);
        keptByTwo();
        x.write(0, 1, 5, 0);
        x.lose(0);
        nearAll(0);
        x.handIn(0);
        vector(0, 1, NO, 1, 0);
        vector(1, 1, NO, 1, 1);
        due("told", x.told(4), 1);
    }

    private static void versionBesideAGreaterOne() {
        given(HERE, "Else it becomes a VERSION of s's COPY", 2);
        keptByTwo();
        x.write(0, 1, 5, 2);
        x.write(1, 1, 7, 1);
        nearAll(0);
        x.handIn(0);
        versions(0, 1, 7, 5);
        due("size", x.version(0, 1, 1, 1), 2);
        vector(0, 1, 1, 0, 0, 1);
        due("no act but make and the other's write", x.told(1), 2 + 2);
        due("none is lost", x.told(2), 0);
    }

    private static void versionBesideALesserOne() {
        given(HERE, "Else it becomes a VERSION of s's COPY: its VECTOR is the RECORD's, with the client's count", 2);
        x.make(0, 0, 1, false);
        near(0, 1);
        x.write(0, 1, 7, 0);
        near(0);
        x.write(0, 1, 8, 0);
        near(0, 0);
        due("s is behind what the client knew", x.handIn(0), 1);
        versions(0, 1, 0, 8);
        vector(0, 1, 0, 0, 0);
        vector(0, 1, 1, 0, 1, 1);
        vector(0, 1, NO, 1, 1, 1);
        x.meet(0);
        values(1, 8, 8);
        due("the lesser one is no version any more", x.copy(0, 1, 2), 0);
    }

    private static void versionBesideVersions() {
        given(HERE, "Its VECTOR is the RECORD's, without VERSIONS: WRITTEN as in 4", 2);
        keptByTwo();
        x.read(2, 1);
        near(2);
        x.write(0, 1, 5, 0);
        x.write(2, 1, 6, 0);
        x.write(1, 1, 7, 0);
        nearAll(0);
        nearAll(2);
        x.handIn(0);
        x.handIn(2);
        versions(0, 1, 7, 5, 6);
        vector(0, 1, 0, 1, 1);
        vector(0, 1, 1, 0, 0, 1);
        vector(0, 1, 2, 0, 0, 0, 0, 1);
        vector(0, 1, NO, 3, 1, 1, 0, 1);
    }

    private static void versionsToldSoFar() {
        given(HERE, "with the client's count the number of such VERSIONS that this client has told so far, with this one", 2);
        x.make(0, 0, 1, false);
        x.make(0, 0, 2, false);
        for (int told = 1; told <= 3; told++) {
            int file = told == 2 ? 2 : 1;
            near(0, 1);
            x.read(0, file);
            near(0);
            x.write(0, file, told, 0);
            if (told < 3) {
                near(1, 0);
                x.write(1, file, 10, 0);
            }
            near(0, 0);
            x.handIn(0);
            vector(0, file, told == 3 ? 2 : 1, 0, 0, told);
        }
    }

    private static void versionsOfEachClient() {
        given(HERE, "the number of such VERSIONS that this client has told so far, with this one", 1);
        keptByTwo();
        x.read(2, 1);
        near(2);
        x.write(0, 1, 5, 0);
        x.write(2, 1, 6, 0);
        x.write(1, 1, 7, 0);
        nearAll(0);
        nearAll(2);
        x.handIn(2);
        x.handIn(0);
        vector(0, 1, 1, 0, 0, 0, 1, 0);
        vector(0, 1, 2, 0, 1, 0, 0, 0);
    }

    private static void whatItWasIsTheFirst() {
        given(HERE, "(if the COPY had no VERSIONS, what it was is the first one)", 2);
        keptByTwo();
        x.write(0, 1, 5, 2);
        x.write(1, 1, 7, 4);
        nearAll(0);
        x.handIn(0);
        due("value of the first", x.version(0, 1, 0, 0), 7);
        due("size of the first", x.version(0, 1, 0, 1), 4);
        vector(0, 1, 0, 1, 1);
        due("the copy's value", x.copy(0, 1, 0), 7);
        due("the copy's size", x.copy(0, 1, 1), 4);
    }

    private static void greaterOfEachCount() {
        given(HERE, "the COPY's VECTOR becomes the greater of each count of both, and s is COUNTED", 3);
        keptByTwo();
        near(0, 1);
        x.write(0, 1, 4, 0);
        near(0);
        x.write(0, 1, 5, 0);
        near(1, 0);
        x.write(1, 1, 6, 0);
        x.write(1, 1, 7, 0);
        nearAll(0);
        x.lose(0);
        x.handIn(0);
        vector(0, 1, 0, 2, 0, 0);
        vector(0, 1, 1, 0, 1, 0, 1);
        vector(0, 1, NO, 3, 1, 0, 1);
        due("that is no second phase", x.told(4), 0);
        due("the loss is still to come", x.lose(0), false);
    }

    private static void versionAtTheLeastAlone() {
        given(HERE, "Else it becomes a VERSION of s's COPY", 3);
        keptByTwo();
        x.write(0, 1, 5, 0);
        x.write(1, 1, 7, 0);
        near(0, 1, 2);
        x.handIn(0);
        versions(0, 1);
        versions(1, 1, 7, 5);
        versions(2, 1);
        vector(1, 1, NO, 1, 2, 1, 1);
        vector(2, 1, NO, 1, 1, 1);
    }

    private static void sixAlready() {
        given(HERE, "With 6 already: LOST.", 2);
        keptByTwo();
        x.write(0, 1, 1, 0);
        x.write(1, 1, 100, 0);
        for (int told = 1; told <= 7; told++) {
            near(0, 0);
            due("one record", x.handIn(0), 1);
            due("lost", x.told(2), Math.max(0, told - 5));
            due("versions", x.copy(0, 1, 2), Math.min(6, told + 1));
            due("dirty goes", isKept(0, 1), false);
            near(0, 1);
            x.read(0, 1);
            near(0);
            x.write(0, 1, told + 1, 0);
        }
        versions(0, 1, 100, 1, 2, 3, 4, 5);
        vector(0, 1, NO, 6, 1, 5);
        records(0, 0, 1, NO);
    }

    private static void makeWithoutTheDirectory() {
        given(HERE, "MAKE: s has no COPY of the DIRECTORY: LOST.", 2);
        x.make(0, 0, 1, true);
        near(0);
        x.make(0, 1, 2, false);
        near(1, 0);
        x.remove(1, 0, 1);
        nearAll(0);
        int acts = x.told(1);
        due("one", x.handIn(0), 1);
        due("lost, though 1 has the directory", x.told(2), 1);
        entries(1, 1);
        due("no act", x.told(1), acts);
        values(2, NONE, NONE);
        due("gone for all", x.read(0, 2), GONE);
    }

    private static void makeAtAllThatHaveTheDirectory() {
        given(HERE, "Else all that are NEAR and have a COPY of it get the ENTRY, and a COPY of the object", 3);
        x.find(0, 0, 0);
        near(0);
        x.make(0, 0, 5, true);
        x.make(0, 0, 5, false);
        near(1, 1);
        x.make(1, 0, 6, false);
        near(0, 0, 1);
        int acts = x.told(1);
        due("two", x.handIn(0), 2);
        entries(0, 0, 1, 2);
        entries(1, 0, 1, 2, 3);
        entries(2, 0);
        due("two at two of them, whatever their vectors", x.told(1), acts + 4);
        vector(0, 0, NO, 2, 3, 0);
        vector(1, 0, NO, 2, 3, 0);
        for (int s = 0; s < 2; s++) {
            entries(s, 1);
            vector(s, 1, NO);
            vector(s, 2, NO);
            due("name", x.entry(s, 0, 0, 1), 5);
        }
        values(2, 0, 0, NONE);
    }

    private static void makeNotWhereTheDirectoryIsNot() {
        given(HERE, "Else all that are NEAR and have a COPY of it get the ENTRY, and a COPY of the object", 2);
        near(0, 0);
        x.make(0, 0, 1, true);
        near(0);
        x.make(0, 1, 2, false);
        nearAll(0);
        x.handIn(0);
        entries(0, 1, 2);
        values(2, 0, NONE);
        vector(0, 1, NO, 1, 0);
        due("none is lost", x.told(2), 0);
    }

    private static void makeWithALostPhase() {
        given(HERE, "these are COUNTED for the DIRECTORY as in 4 (LOST ones, too).", 2);
        x.find(0, 0, 0);
        near(0);
        x.make(0, 0, 5, false);
        x.lose(1);
        nearAll(0);
        x.handIn(0);
        vector(0, 0, NO, 1, 1);
        vector(1, 0, NO, 0, 1);
        entries(1, 0, 1);
        due("told", x.told(4), 1);
        due("over then", x.lose(1), true);
    }

    private static void removeOfNoCopy() {
        given(HERE, "REMOVE: s has no COPY of the object or the DIRECTORY, or it is GONE there: nothing.", 2);
        keptByTwo();
        x.remove(0, 0, 1);
        near(1, 0);
        x.remove(1, 0, 1);
        nearAll(0);
        int acts = x.told(1);
        due("one", x.handIn(0), 1);
        due("no act", x.told(1), acts);
        due("not refused", x.told(3), 0);
        due("not lost", x.told(2), 0);
        entries(1, 0, 1);
        vector(0, 0, NO, 2, 1);
    }

    private static void removeOfOneNotKnown() {
        given(HERE, "REMOVE: s has no COPY of the object or the DIRECTORY, or it is GONE there: nothing.", 2);
        near(0, 1);
        x.make(0, 0, 1, false);
        near(0);
        x.remove(0, 0, 1);
        near(0, 0);
        int acts = x.told(1);
        due("one", x.handIn(0), 1);
        due("no act", x.told(1), acts);
        entries(0, 0);
        vector(0, 0, NO);
        due("there at 1", x.copy(1, 1, 0), 0);
    }

    private static void removeWithoutTheDirectory() {
        given(HERE, "REMOVE: s has no COPY of the object or the DIRECTORY, or it is GONE there: nothing.", 2);
        x.make(0, 0, 1, true);
        x.make(0, 1, 2, false);
        near(0);
        x.remove(0, 1, 2);
        near(1, 0);
        x.remove(1, 1, 2);
        x.remove(1, 0, 1);
        nearAll(0);
        int acts = x.told(1);
        due("one", x.handIn(0), 1);
        due("no act", x.told(1), acts);
        due("not refused", x.told(3), 0);
        entries(1, 1, 2);
    }

    private static void removeOfOneThatIsGoneThere() {
        given(HERE, "REMOVE: s has no COPY of the object or the DIRECTORY, or it is GONE there: nothing.", 2);
        keptByTwo();
        x.remove(0, 0, 1);
        near(1, 1);
        x.write(1, 1, 7, 0);
        near(1);
        due("by one that knows the write", x.remove(1, 0, 1), 0);
        nearAll(0);
        x.handIn(0);
        values(1, NONE, 7);
        entries(1, 0, -1);
        near(1, 1);
        int acts = x.told(1);
        due("one", x.handIn(1), 1);
        due("nothing", x.copy(1, 1, 0), 7);
        due("no act", x.told(1), acts);
        due("not refused", x.told(3), 0);
        vector(1, 0, NO, 2, 2);
    }

    private static void removeOfTheSameVector() {
        given(HERE, "Its VECTOR is AT MOST the RECORD's", 2);
        keptByTwo();
        x.remove(0, 0, 1);
        nearAll(0);
        x.handIn(0);
        values(1, NONE, NONE);
        entries(0, 0, -1);
        due("acts of make and remove", x.told(1), 2 + 2);
        due("not refused", x.told(3), 0);
    }

    private static void removeOfALesserVector() {
        given(HERE, "Its VECTOR is AT MOST the RECORD's", 2);
        keptByTwo();
        near(0, 1);
        x.write(0, 1, 5, 0);
        near(0);
        x.remove(0, 0, 1);
        near(0, 0);
        x.handIn(0);
        values(1, NONE, 5);
        due("not refused", x.told(3), 0);
    }

    private static void removeOfAGreaterVector() {
        given(HERE, "Else REFUSED.", 2);
        keptByTwo();
        x.remove(0, 0, 1);
        x.write(1, 1, 7, 0);
        nearAll(0);
        int acts = x.told(1);
        due("one", x.handIn(0), 1);
        due("refused", x.told(3), 1);
        due("no act", x.told(1), acts);
        due("not lost", x.told(2), 0);
        entries(0, 0, 1);
        values(1, 7, 7);
        records(0);
    }

    private static void removeOfVersions() {
        given(HERE, "it has no VERSIONS, and, of a DIRECTORY, none is THERE: REMOVED as in 4", 2);
        x.make(0, 0, 1, false);
        near(0, 0);
        near(1, 1);
        x.write(0, 1, 5, 0);
        x.write(1, 1, 6, 0);
        x.meet(0);
        x.repair(1, 1, 0);
        x.find(1, 0, 0);
        x.read(1, 1);
        near(1);
        x.remove(1, 0, 1);
        nearAll(1);
        due("0 has a lesser one with versions", x.handIn(1), 1);
        due("refused", x.told(3), 1);
        versions(0, 1, 5, 6);
        values(1, 5, 5);
    }

    private static void removeOfADirectoryWithSome() {
        given(HERE, "of a DIRECTORY, none is THERE", 2);
        x.make(0, 0, 1, true);
        x.make(0, 1, 2, false);
        near(0, 1);
        x.remove(0, 1, 2);
        near(0);
        due("empty as it knows", x.remove(0, 0, 1), 0);
        nearAll(0);
        x.handIn(0);
        due("0 has a lesser one with one there: refused", x.told(3), 1);
        entries(0, 0, 1);
        entries(0, 1, 2);
    }

    private static void removeOfADirectoryWithGoneOnes() {
        given(HERE, "of a DIRECTORY, none is THERE", 2);
        x.make(0, 0, 1, true);
        x.make(0, 1, 2, false);
        x.remove(0, 1, 2);
        near(0);
        x.remove(0, 0, 1);
        nearAll(0);
        x.handIn(0);
        due("not refused", x.told(3), 0);
        values(1, NONE, NONE);
        entries(0, 0, -1);
    }

    private static void removeAtThoseWithTheDirectory() {
        given(HERE, "REMOVED as in 4 at the SET of those with s's VECTOR of the DIRECTORY.", 4);
        keptByTwo();
        x.remove(0, 0, 1);
        near(1, 2);
        x.make(1, 0, 2, false);
        near(0, 1, 2, 3);
        int acts = x.told(1);
        x.handIn(0);
        entries(0, 0, 1);
        entries(1, 0, -1);
        entries(2, 0, 1, 2);
        entries(3, 0, -1);
        values(1, 0, NONE, 0, NONE);
        due("acts at 1 and 3", x.told(1), acts + 2);
        vector(1, 0, NO, 1, 2, 1, 2);
        vector(2, 0, NO, 1, 1, 2, 1);
    }

    private static void removeWithALostPhase() {
        given(HERE, "REMOVED as in 4 at the SET of those with s's VECTOR of the DIRECTORY.", 2);
        keptByTwo();
        x.remove(0, 0, 1);
        x.lose(0);
        nearAll(0);
        x.handIn(0);
        vector(0, 0, NO, 2, 1);
        vector(1, 0, NO, 2, 2);
        due("told", x.told(4), 1);
    }

    private static void goneWithTheRecordsVector() {
        given(HERE, "REMOVED as in 4", 3);
        keptByTwo();
        near(0, 1, 2);
        x.write(0, 1, 5, 0);
        near(0);
        x.remove(0, 0, 1);
        near(0, 0);
        due("0 has a lesser one", x.handIn(0), 1);
        due("the root at all; 1 and 2 drop what the record knew", x.meet(0), 3 + 2);
        values(1, NONE, NONE, NONE);
    }

    private static void promisesEndForAWrite() {
        given(HERE, "All PROMISES for what was changed so end, at those that did it.", 3);
        keptByTwo();
        x.write(0, 1, 5, 0);
        near(0, 0, 2);
        x.handIn(0);
        due("1 did not do it", x.cached(1, 1, 2), 2);
        due("the directory did not change", x.cached(1, 0, 2), 7);
    }

    private static void promisesEndForAVersion() {
        given(HERE, "All PROMISES for what was changed so end, at those that did it.", 3);
        keptByTwo();
        x.write(0, 1, 5, 0);
        x.write(1, 1, 7, 0);
        near(0, 1, 2);
        x.handIn(0);
        due("1 did it alone", x.cached(1, 1, 2), 5);
    }

    private static void promisesEndForAMake() {
        given(HERE, "All PROMISES for what was changed so end, at those that did it.", 3);
        keptByTwo();
        x.make(0, 0, 5, false);
        near(0, 0, 1);
        x.handIn(0);
        due("2 did not do it", x.cached(1, 0, 2), 4);
        due("the file did not change", x.cached(1, 1, 2), 7);
    }

    private static void promisesEndForARemove() {
        given(HERE, "All PROMISES for what was changed so end, at those that did it.", 3);
        keptByTwo();
        x.remove(0, 0, 1);
        near(0, 1, 2);
        x.handIn(0);
        due("for the directory", x.cached(1, 0, 2), 1);
        due("for what was removed", x.cached(1, 1, 2), 1);
    }

    private static void theLogIsEmpty() {
        given(HERE, "Then the LOG is empty, and what is DIRTY goes.", 1);
        for (int f = 1; f <= 4; f++) {
            x.make(0, 0, f, false);
        }
        near(0);
        x.write(0, 1, 5, 0);
        x.write(0, 2, 6, 0);
        x.remove(0, 0, 3);
        x.make(0, 0, 9, false);
        x.write(1, 2, 7, 0);
        nearAll(0);
        due("four", x.handIn(0), 4);
        records(0);
        kept(0, 5, 4);
        due("not alone", x.walk(0), 0);
        due("nothing went to make room", x.told(6), 0);
        due("what is at the server", x.read(0, 1), 5);
        due("not what it wrote", x.read(0, 2), CONFLICT);
        due("what is not dirty stays", x.cached(0, 4, 3), 0);
    }

    private static void whatComesBackIsNotDirty() {
        given(HERE, "Then the LOG is empty, and what is DIRTY goes.", 1);
        for (int f = 1; f <= 4; f++) {
            x.make(0, 0, f, false);
        }
        near(0);
        for (int f = 1; f <= 3; f++) {
            x.write(0, f, f, 6);
        }
        x.remove(0, 0, 4);
        nearAll(0);
        x.handIn(0);
        kept(0, 4);
        readAll(0, 1, 2, 3);
        x.find(0, 0, 0);
        for (int o = 0; o <= 3; o++) {
            due("not dirty", x.cached(0, o, 3), 0);
        }
        x.make(0, 0, 5, true);
        due("so 1 may go for it", isKept(0, 1), false);
        due("it is kept", isKept(0, 5), true);
    }
}
