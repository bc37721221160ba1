/** 4 ACTS near servers, sentence by sentence. */
public final class Terms4NearTest extends Sentences {
    private static final String HERE = "Terms 4 ACTS near servers";

    public static void main(String[] args) {
        gotFirst();
        setHasTheVectorThatWasGot();
        setHasACopy();
        setOfMake();
        setOfRemove();
        countedInEachVector();
        lostInWrite();
        lostInMake();
        lostInRemove();
        lostAtAll();
        lostIsOver();
        lostElsewhereStays();
        writeTakesValueAndSize();
        makeAFile();
        makeADirectory();
        removeWhatIsNotThere();
        removeNeedsTheObject();
        removeOfOneThatNoneNearHas();
        removeAFullDirectory();
        goneWithTheVectorThatWasGot();
        dropsWhatIsAtMost();
        keepsWhatIsNotAtMost();
        keepsVersions();
        keepsADirectoryOfCopies();
        itsOwnCopyGetsTheAct();
        countedInItsOwnVector();
        promisedByThoseNotLost();
        madeComesIntoTheCache();
        madeIsUsed();
        madeMakesRoom();
        growsWithRoom();
        removedGoes();
        othersPromisesEnd();
        othersPromisesForWhatWasRemovedEnd();
        end("Terms 4");
    }

    private static void gotFirst() {
        given(HERE, "WRITE the FILE, MAKE and REMOVE the DIRECTORY. It is got first (needed).", 1);
        files(0);
        int came = x.told(5);
        x.write(0, 1, 5, 0);
        due("the file came for its write", x.told(5), came + 1);
        x.make(0, 0, 1, false);
        due("the directory came for make", x.told(5), came + 2);
        x.remove(1, 0, 2);
        due("the directory and the object came for remove", x.told(5), came + 4);
        x.remove(2, 0, 40);
        due("the directory came for nothing", x.told(5), came + 5);
    }

    private static void setHasTheVectorThatWasGot() {
        given(HERE, "The SET are the servers that are NEAR and have a COPY of O with the VECTOR that was got", 3);
        files(0);
        near(0, 1, 2);
        due("1 and 2", x.write(0, 1, 5, 0), 2);
        near(0, 0, 1);
        due("1: 0 has a lesser one, 2 is not near", x.write(0, 1, 6, 0), 1);
        values(1, 1, 6, 5);
        vector(0, 1, NO, 1, 1, 1);
        vector(1, 1, NO, 1, 3, 2);
        vector(2, 1, NO, 1, 2, 2);
    }

    private static void setHasACopy() {
        given(HERE, "The SET are the servers that are NEAR and have a COPY of O with the VECTOR that was got", 2);
        near(0, 1);
        x.make(0, 0, 1, false);
        nearAll(0);
        due("all 0 as it is, 0 has no copy", x.write(0, 1, 5, 0), 1);
        values(1, NONE, 5);
    }

    private static void setOfMake() {
        given(HERE, "The SET are the servers that are NEAR and have a COPY of O with the VECTOR that was got", 3);
        near(0, 0);
        x.make(0, 0, 1, false);
        nearAll(0);
        due("at 0, which has the greatest", x.make(0, 0, 1, false), 2);
        due("two acts", x.told(1), 2);
        entries(0, 0, 1, 2);
        entries(1, 0);
        values(2, 0, NONE, NONE);
    }

    private static void setOfRemove() {
        given(HERE, "The SET are the servers that are NEAR and have a COPY of O with the VECTOR that was got", 3);
        files(0);
        near(0, 1, 2);
        x.make(0, 0, 1, false);
        nearAll(0);
        due("1 and 2, by the directory", x.remove(0, 0, 1), 2);
        entries(0, 0, 1);
        entries(1, 0, -1, 2);
        values(1, 1, NONE, NONE);
    }

    private static void countedInEachVector() {
        given(HERE, "All of the SET do the act; then the SET is COUNTED for O, in the VECTOR of each one's COPY", 4);
        x.make(0, 0, 1, false);
        near(0, 0, 1, 3);
        x.write(0, 1, 5, 2);
        for (int s = 0; s < 4; s++) {
            vector(s, 0, NO, 1, 1, 1, 1);
            if (s == 2) {
                vector(s, 1, NO);
            } else {
                vector(s, 1, NO, 1, 1, 0, 1);
            }
        }
        values(1, 5, 5, 0, 5);
        x.remove(0, 0, 1);
        vector(3, 0, NO, 2, 2, 1, 2);
        vector(2, 0, NO, 1, 1, 1, 1);
    }

    private static void lostInWrite() {
        given(HERE, "of one for which a second phase is to be LOST (that is over then) its own count alone changes.", 3);
        files(0);
        x.lose(1);
        due("all do the act", x.write(0, 1, 5, 2), 3);
        values(1, 5, 5, 5);
        vector(0, 1, NO, 2, 2, 2);
        vector(1, 1, NO, 1, 2, 1);
        vector(2, 1, NO, 2, 2, 2);
        due("one is told", x.told(4), 1);
    }

    private static void lostInMake() {
        given(HERE, "of one for which a second phase is to be LOST (that is over then) its own count alone changes.", 2);
        x.lose(0);
        x.make(0, 0, 1, false);
        vector(0, 0, NO, 1, 0);
        vector(1, 0, NO, 1, 1);
        entries(0, 0, 1);
        vector(0, 1, NO);
        values(1, 0, 0);
        due("one is told", x.told(4), 1);
    }

    private static void lostInRemove() {
        given(HERE, "of one for which a second phase is to be LOST (that is over then) its own count alone changes.", 2);
        files(0);
        x.lose(0);
        due("both", x.remove(0, 0, 1), 2);
        vector(0, 0, NO, 2, 1);
        vector(1, 0, NO, 2, 2);
        entries(0, 0, -1);
        values(1, NONE, NONE);
    }

    private static void lostAtAll() {
        given(HERE, "of one for which a second phase is to be LOST (that is over then) its own count alone changes.", 2);
        files(0);
        x.lose(0);
        x.lose(1);
        due("both", x.write(0, 1, 5, 0), 2);
        vector(0, 1, NO, 2, 1);
        vector(1, 1, NO, 1, 2);
        due("two are told", x.told(4), 2);
        due("so they are apart", x.read(0, 1), APART);
    }

    private static void lostIsOver() {
        given(HERE, "a second phase is to be LOST (that is over then)", 1);
        x.lose(0);
        x.make(0, 0, 1, false);
        due("told", x.told(4), 1);
        x.write(0, 1, 5, 0);
        due("the next one is not lost", x.told(4), 1);
        due("none was to be lost", x.lose(0), true);
    }

    private static void lostElsewhereStays() {
        given(HERE, "a second phase is to be LOST (that is over then)", 2);
        files(0);
        x.lose(1);
        near(0, 0);
        x.write(0, 1, 5, 0);
        due("server 1 did nothing", x.told(4), 0);
        due("one is to be lost still", x.lose(1), false);
        x.meet(0);
        due("a meeting has no second phase", x.told(4), 0);
        nearAll(0);
        due("write", x.write(0, 1, 6, 0), 2);
        due("now it is lost", x.told(4), 1);
        vector(1, 1, NO, 2, 2);
        vector(0, 1, NO, 3, 2);
    }

    private static void writeTakesValueAndSize() {
        given(HERE, "WRITE: VALUE and SIZE are those told.", 2);
        files(3);
        x.write(0, 1, -8, 5);
        for (int s = 0; s < 2; s++) {
            due("value", x.copy(s, 1, 0), -8);
            due("size", x.copy(s, 1, 1), 5);
        }
    }

    private static void makeAFile() {
        given(HERE, "MAKE: an object with the next number; an ENTRY that is THERE; each of the SET has a COPY of it", 2);
        due("1", x.make(0, 0, 4, false), 1);
        due("2", x.make(1, 0, 4, false), 2);
        for (int s = 0; s < 2; s++) {
            entries(s, 0, 1, 2);
            due("name", x.entry(s, 0, 1, 1), 4);
            vector(s, 2, NO);
            due("value", x.copy(s, 2, 0), 0);
            due("size", x.copy(s, 2, 1), 0);
        }
    }

    private static void makeADirectory() {
        given(HERE, "(VECTOR all 0, a FILE with 0, 0; a DIRECTORY without ENTRIES)", 2);
        due("1", x.make(0, 0, 4, true), 1);
        for (int s = 0; s < 2; s++) {
            entries(s, 0, 1);
            entries(s, 1);
            vector(s, 1, NO);
        }
        due("a directory", x.find(1, 1, 0), NONE);
    }

    private static void removeWhatIsNotThere() {
        given(HERE, "REMOVE of an object that is THERE in the DIRECTORY got (if not: NONE)", 2);
        x.make(0, 0, 1, true);
        x.make(0, 1, 2, false);
        x.make(0, 0, 3, false);
        due("in another directory", x.remove(0, 0, 2), NONE);
        due("in another directory", x.remove(0, 1, 3), NONE);
        due("in itself", x.remove(0, 1, 1), NONE);
        due("the root", x.remove(0, 0, 0), NONE);
        due("never made", x.remove(0, 0, 4), NONE);
        due("never made", x.remove(0, 0, 47), NONE);
        x.remove(0, 0, 3);
        due("gone", x.remove(0, 0, 3), NONE);
        due("no act", x.told(1), 3 * 2 + 2);
        near(0, 0);
        x.make(0, 0, 4, false);
        near(1, 1);
        due("not known at 1", x.remove(1, 0, 4), NONE);
    }

    private static void removeNeedsTheObject() {
        given(HERE, "it is got, too (needed; what that answers is answered)", 2);
        files(0);
        near(0, 0);
        near(1, 1);
        x.write(0, 1, 5, 0);
        x.write(1, 1, 6, 0);
        due("apart", x.remove(2, 0, 1), APART);
        x.meet(0);
        due("conflict", x.remove(2, 0, 1), CONFLICT);
        x.find(2, 0, 0);
        near(2);
        due("miss", x.remove(2, 0, 1), MISS);
        entries(0, 0, 1);
        entries(1, 0, 1);
    }

    private static void removeOfOneThatNoneNearHas() {
        given(HERE, "it is got, too (needed; what that answers is answered)", 2);
        x.find(2, 0, 0);
        near(0, 0);
        near(1, 1);
        near(2);
        x.make(0, 0, 7, false);
        x.make(1, 0, 8, false);
        x.make(2, 0, 9, false);
        nearAll(2);
        x.handIn(2);
        due("as server 0 has it, and 1 has another one with the same vector", x.find(3, 0, 7), 1);
        near(3, 1);
        due("no copy at 1", x.remove(3, 0, 1), GONE);
        entries(1, 0, 2, 3);
    }

    private static void removeAFullDirectory() {
        given(HERE, "and if it is a DIRECTORY with some THERE: FULL", 2);
        x.make(0, 0, 1, true);
        x.make(0, 1, 2, false);
        x.make(0, 1, 3, true);
        due("two are there", x.remove(0, 0, 1), FULL);
        x.remove(0, 1, 2);
        due("one is there", x.remove(0, 0, 1), FULL);
        entries(0, 0, 1);
        x.remove(0, 1, 3);
        due("all are gone", x.remove(0, 0, 1), 2);
        values(1, NONE, NONE);
    }

    private static void goneWithTheVectorThatWasGot() {
        given(HERE, "the ENTRY is GONE with the VECTOR of the object that was got", 3);
        x.make(0, 0, 1, false);
        near(1, 1, 2);
        x.write(1, 1, 7, 0);
        near(0, 0, 1);
        due("got from 1, removed at 0 and 1", x.remove(0, 0, 1), 2);
        values(1, NONE, NONE, 7);
        due("the root at all, and 2 drops what was known", x.meet(0), 3 + 1);
        values(1, NONE, NONE, NONE);
        entries(2, 0, -1);
    }

    private static void dropsWhatIsAtMost() {
        given(HERE, "each of the SET drops its COPY of the object, if its VECTOR is AT MOST that", 2);
        files(0);
        near(1, 1);
        x.write(1, 1, 7, 0);
        due("0 has a lesser one, 1 just this one", x.remove(0, 0, 1), 2);
        values(1, NONE, NONE);
        entries(0, 0, -1);
        entries(1, 0, -1);
    }

    private static void keepsWhatIsNotAtMost() {
        given(HERE, "each of the SET drops its COPY of the object, if its VECTOR is AT MOST that", 2);
        files(0);
        x.find(0, 0, 0);
        x.read(0, 1);
        near(0);
        x.remove(0, 0, 1);
        near(1, 1);
        x.write(1, 1, 7, 0);
        nearAll(0);
        x.handIn(0);
        values(1, NONE, 7);
        entries(0, 0, -1);
        entries(1, 0, -1);
        vector(1, 0, NO, 2, 2);
    }

    private static void keepsVersions() {
        given(HERE, "it has no VERSIONS", 2);
        files(0);
        near(0, 0);
        near(1, 1);
        x.write(0, 1, 5, 0);
        x.write(1, 1, 6, 0);
        x.meet(0);
        x.repair(1, 1, 0);
        due("got from 1, at both", x.remove(2, 0, 1), 2);
        due("1 drops it", x.copy(1, 1, 0), NONE);
        versions(0, 1, 5, 6);
        entries(0, 0, -1);
    }

    private static void keepsADirectoryOfCopies() {
        given(HERE, "and (of a DIRECTORY) there is no COPY of what is in it at that server.", 2);
        x.make(0, 0, 1, true);
        x.make(0, 1, 2, false);
        near(0);
        x.remove(0, 1, 2);
        near(1, 1);
        x.write(1, 2, 7, 0);
        nearAll(0);
        x.handIn(0);
        values(2, NONE, 7);
        due("empty by its entries", x.remove(0, 0, 1), 2);
        due("0 drops it", x.copy(0, 1, 3), NONE);
        entries(1, 1, -2);
        entries(1, 0, -1);
        values(2, NONE, 7);
    }

    private static void itsOwnCopyGetsTheAct() {
        given(HERE, "The client's COPY of O, if it is in the CACHE, gets the act", 2);
        files(0);
        x.write(0, 1, 5, 3);
        due("value", x.cached(0, 1, 0), 5);
        due("size", x.cached(0, 1, 1), 3);
        x.make(0, 0, 9, false);
        due("two are there", x.cached(0, 0, 0), 2);
        due("good", x.cached(0, 0, 4), 1);
        due("found", x.find(0, 0, 9), 2);
        x.remove(0, 0, 1);
        due("one is there", x.cached(0, 0, 0), 1);
        due("not found", x.find(0, 0, 0), NONE);
    }

    private static void countedInItsOwnVector() {
        given(HERE, "and the SET is COUNTED in its VECTOR", 2);
        files(0);
        x.write(0, 1, 5, 0);
        x.make(0, 0, 9, false);
        int came = x.told(5);
        due("again, by its own copy", x.write(0, 1, 6, 0), 2);
        due("again, by its own copy", x.make(0, 0, 9, false), 3);
        due("again, by its own copy", x.remove(0, 0, 2), 2);
        due("again, by its own copy", x.remove(0, 0, 3), 2);
        due("nothing came", x.told(5), came);
        x.lose(1);
        x.write(0, 1, 7, 0);
        vector(1, 1, NO, 3, 4);
        near(0, 0);
        due("also if one was lost: its own copy is that of 0", x.write(0, 1, 8, 0), 1);
        due("nothing came", x.told(5), came);
        vector(0, 1, NO, 5, 4);
    }

    private static void promisedByThoseNotLost() {
        given(HERE, "PROMISED by those of the SET for which no second phase was LOST", 3);
        files(0);
        x.lose(1);
        x.write(0, 1, 5, 0);
        due("0 and 2", x.cached(0, 1, 2), 5);
        due("not good", x.cached(0, 1, 4), 0);
        x.lose(0);
        x.make(0, 0, 1, false);
        due("1 and 2 for the directory", x.cached(0, 0, 2), 6);
        near(1, 1, 2);
        x.lose(1);
        x.remove(1, 0, 2);
        due("2 alone", x.cached(1, 0, 2), 4);
    }

    private static void madeComesIntoTheCache() {
        given(HERE, "What was MADE comes into its CACHE, if there is ROOM, PROMISED by all of the SET (LOST or not)", 3);
        x.lose(0);
        near(0, 0, 1);
        x.make(0, 0, 1, false);
        due("0 and 1, lost or not", x.cached(0, 1, 2), 3);
        due("good", x.cached(0, 1, 4), 1);
        due("value", x.cached(0, 1, 0), 0);
        due("not dirty", x.cached(0, 1, 3), 0);
        due("it did not come from a server", x.told(5), 1);
        x.make(0, 0, 1, true);
        due("a directory, at 1", x.cached(0, 2, 2), 2);
        due("none is in it", x.cached(0, 2, 0), 0);
    }

    private static void madeIsUsed() {
        given(HERE, "and is USED", 1);
        files(6, 6, 6, 0);
        due("made", x.make(0, 0, 9, false), 5);
        readAll(0, 1, 2, 3);
        x.read(0, 4);
        due("the directory was used before it", isKept(0, 0), false);
        kept(0, 5, 1, 2, 3, 4, 5);
        x.find(0, 0, 0);
        due("then it goes itself", isKept(0, 5), false);
    }

    private static void madeMakesRoom() {
        given(HERE, "What was MADE comes into its CACHE, if there is ROOM", 1);
        files(6, 6, 6);
        x.find(0, 0, 0);
        readAll(0, 1, 2, 3);
        int went = x.told(6);
        x.make(0, 0, 5, false);
        due("just 24", x.told(6), went);
        x.make(0, 0, 5, true);
        due("2 more: one goes", x.told(6), went + 1);
        kept(0, 5, 0, 2, 3, 4, 5);
    }

    private static void growsWithRoom() {
        given(HERE, "if it grows without ROOM, it goes.", 1);
        files(6, 6, 6, 0);
        readAll(0, 4, 1, 2, 3);
        for (int f = 1; f <= 3; f++) {
            x.priority(0, f, 9);
        }
        due("near servers nothing is dirty, so there is room", x.write(0, 4, 9, 6), 1);
        kept(0, 4, 2, 3, 4);
        due("as it was written", x.cached(0, 4, 1), 6);
        due("good", x.cached(0, 4, 4), 1);
    }

    private static void removedGoes() {
        given(HERE, "what was REMOVED goes.", 1);
        files(6, 6, 6, 6);
        readAll(0, 1, 2);
        int went = x.told(6);
        x.remove(0, 0, 1);
        kept(0, 4, 0, 2);
        x.read(0, 3);
        x.read(0, 4);
        due("its weight is free: 2 + 7 + 7 + 7", x.told(6), went);
    }

    private static void othersPromisesEnd() {
        given(HERE, "What other clients were PROMISED by those of the SET for O", 2);
        files(0, 0);
        for (int c = 0; c < 3; c++) {
            x.find(c, 0, 0);
            readAll(c, 1, 2);
        }
        near(0, 0);
        x.write(0, 1, 5, 0);
        for (int c = 1; c < 3; c++) {
            due("by 0, which did it, alone", x.cached(c, 1, 2), 2);
            due("not for another file", x.cached(c, 2, 2), 3);
            due("not for the directory", x.cached(c, 0, 2), 3);
        }
        due("its own", x.cached(0, 1, 2), 1);
        near(0, 1);
        x.make(0, 0, 1, false);
        due("by 1", x.cached(1, 0, 2), 1);
        due("not for a file in it", x.cached(1, 2, 2), 3);
    }

    private static void othersPromisesForWhatWasRemovedEnd() {
        given(HERE, "(and for what was REMOVED) ends.", 3);
        files(0, 0);
        x.find(1, 0, 0);
        readAll(1, 1, 2);
        near(0, 0, 2);
        x.remove(0, 0, 1);
        due("for the directory", x.cached(1, 0, 2), 2);
        due("for what was removed", x.cached(1, 1, 2), 2);
        due("not for another one", x.cached(1, 2, 2), 7);
        due("its own for the directory", x.cached(0, 0, 2), 5);
    }
}
