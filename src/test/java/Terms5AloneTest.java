/** 5 ACTS ALONE, sentence by sentence. */
public final class Terms5AloneTest extends Sentences {
    private static final String HERE = "Terms 5 ACTS ALONE";

    public static void main(String[] args) {
        doneInTheCache();
        whatRecordsTell();
        vectorOfItsCopy();
        vectorOfWhatIsRemoved();
        missOfWhatIsChanged();
        missOfWhatIsRemoved();
        removeAsIn4();
        dirtyByWrite();
        dirtyByMake();
        dirtyByRemove();
        removedGoes();
        twelfthAndThirteenthWrite();
        twelfthAndThirteenthMake();
        twelfthAndThirteenthRemove();
        fullAheadOfNoRoom();
        noRoomOfWhatIsNoRecord();
        noRoomToGrow();
        noRoomToMake();
        shrinkingNeedsNoRoom();
        writtenAgain();
        writtenAgainInAFullLog();
        removeOfWhatWasMade();
        removeOfWhatWasMadeInAFullLog();
        nothingIsDirty();
        nothingIsDirtyInTheRoot();
        someRecordIsLeft();
        removeTakesItsWriteOut();
        othersKeepTheirVectors();
        removeInPlaceOfItsWriteInAFullLog();
        end("Terms 5, acts alone");
    }

    /** Client 0 keeps the root and files 1 .. n of size 0, and is alone. */
    private static void keepFilesAlone(int n) {
        for (int f = 1; f <= n; f++) {
            x.make(0, 0, f % 16, false);
        }
        near(0);
    }

    private static void doneInTheCache() {
        given(HERE, "are done in the CACHE, and are RECORDS of the LOG", 2);
        keepFilesAlone(2);
        due("write", x.write(0, 1, 5, 3), 0);
        due("make", x.make(0, 0, 9, true), 3);
        due("remove", x.remove(0, 0, 2), 0);
        due("value", x.cached(0, 1, 0), 5);
        due("size", x.cached(0, 1, 1), 3);
        due("its own directory", x.find(0, 0, 9), 3);
        due("its own directory", x.find(0, 0, 2), NONE);
        due("two are there", x.cached(0, 0, 0), 2);
        for (int s = 0; s < 2; s++) {
            entries(s, 0, 1, 2);
            due("nothing at a server", x.copy(s, 1, 0), 0);
            due("nothing at a server", x.copy(s, 3, 3), NONE);
        }
        due("no act of a server", x.told(1), 4);
    }

    private static void whatRecordsTell() {
        given(HERE, "WRITE (object, VECTOR of its COPY), MAKE (DIRECTORY, NAME, object), REMOVE (DIRECTORY, object,", 1);
        x.make(0, 0, 1, true);
        x.make(0, 1, 2, false);
        x.make(0, 1, 3, false);
        near(0);
        x.write(0, 3, 5, 1);
        x.make(0, 1, 14, false);
        x.remove(0, 1, 2);
        records(0, 0, 3, NO, 1, 4, 1, 2, 2, 1);
        nearAll(0);
        x.handIn(0);
        entries(0, 1, -2, 3, 4);
        due("the name", x.entry(0, 1, 2, 1), 14);
        values(3, 5);
    }

    private static void vectorOfItsCopy() {
        given(HERE, "WRITE (object, VECTOR of its COPY)", 2);
        files(0);
        x.write(0, 1, 5, 0);
        near(0);
        x.write(0, 1, 6, 0);
        nearAll(0);
        x.handIn(0);
        values(1, 6, 6);
        due("2, 2 was known: no versions", x.copy(0, 1, 2), 0);
        vector(1, 1, NO, 3, 3);
    }

    private static void vectorOfWhatIsRemoved() {
        given(HERE, "REMOVE (DIRECTORY, object, VECTOR of its COPY)", 2);
        files(0);
        x.find(0, 0, 0);
        x.read(0, 1);
        near(0);
        x.remove(0, 0, 1);
        near(0, 0);
        x.handIn(0);
        due("1, 1 was known: dropped", x.copy(0, 1, 0), NONE);
        due("the root at both, 1 drops what was known", x.meet(0), 2 + 1);
        values(1, NONE, NONE);
    }

    private static void missOfWhatIsChanged() {
        given(HERE, "O is got (needed, MISS)", 1);
        files(0);
        x.make(3, 0, 1, true);
        near(0);
        due("write", x.write(0, 1, 5, 0), MISS);
        due("make", x.make(0, 2, 5, false), MISS);
        due("make", x.make(0, 0, 5, false), MISS);
        due("remove", x.remove(0, 0, 1), MISS);
        records(0);
        due("no number is used", x.told(0), 2);
    }

    private static void missOfWhatIsRemoved() {
        given(HERE, "of REMOVE the object, too, as in 4.", 1);
        files(0);
        x.find(0, 0, 0);
        near(0);
        due("the directory is kept, the object not", x.remove(0, 0, 1), MISS);
        records(0);
        due("not dirty", x.cached(0, 0, 3), 0);
    }

    private static void removeAsIn4() {
        given(HERE, "of REMOVE the object, too, as in 4.", 1);
        x.make(0, 0, 1, true);
        x.make(0, 1, 2, false);
        near(0);
        due("some are there", x.remove(0, 0, 1), FULL);
        due("not there", x.remove(0, 0, 2), NONE);
        due("never made", x.remove(0, 0, 30), NONE);
        records(0);
        x.remove(0, 1, 2);
        due("not there any more", x.remove(0, 1, 2), NONE);
        due("none is there", x.remove(0, 0, 1), 0);
        records(0, 2, 2, 1, 2, 1, 0);
    }

    private static void dirtyByWrite() {
        given(HERE, "What is written, made, and the DIRECTORY of MAKE and REMOVE are DIRTY then", 1);
        keepFilesAlone(2);
        x.write(0, 1, 5, 0);
        due("written", x.cached(0, 1, 3), 1);
        due("another file", x.cached(0, 2, 3), 0);
        due("the directory", x.cached(0, 0, 3), 0);
    }

    private static void dirtyByMake() {
        given(HERE, "What is written, made, and the DIRECTORY of MAKE and REMOVE are DIRTY then", 1);
        keepFilesAlone(1);
        x.make(0, 0, 5, false);
        due("made", x.cached(0, 2, 3), 1);
        due("the directory", x.cached(0, 0, 3), 1);
        due("another file", x.cached(0, 1, 3), 0);
    }

    private static void dirtyByRemove() {
        given(HERE, "What is written, made, and the DIRECTORY of MAKE and REMOVE are DIRTY then", 1);
        keepFilesAlone(2);
        x.remove(0, 0, 1);
        due("the directory", x.cached(0, 0, 3), 1);
        due("another file", x.cached(0, 2, 3), 0);
    }

    private static void removedGoes() {
        given(HERE, "what is REMOVED goes.", 1);
        keepFilesAlone(2);
        x.write(0, 1, 5, 6);
        x.remove(0, 0, 1);
        kept(0, 2, 0, 2);
        due("alone it is a miss", x.read(0, 1), MISS);
        due("nothing went to make room", x.told(6), 0);
    }

    private static void twelfthAndThirteenthWrite() {
        given(HERE, "A RECORD that would be the 13th: FULL", 1);
        keepFilesAlone(13);
        for (int f = 1; f <= 12; f++) {
            due("write " + f, x.write(0, f, f, 0), 0);
        }
        due("the 12th", x.record(0, 11, 1), 12);
        due("the 13th", x.write(0, 13, 13, 0), FULL);
        due("nothing is done", x.cached(0, 13, 0), 0);
        due("nothing is dirty by it", x.cached(0, 13, 3), 0);
        due("no record", x.record(0, 12, 0), NONE);
        nearAll(0);
        due("twelve", x.handIn(0), 12);
    }

    private static void twelfthAndThirteenthMake() {
        given(HERE, "are done in the CACHE, and are RECORDS of the LOG (12 at most)", 1);
        x.find(0, 0, 0);
        near(0);
        for (int o = 1; o <= 12; o++) {
            due("make " + o, x.make(0, 0, o, false), o);
        }
        due("the 13th", x.make(0, 0, 13, false), FULL);
        due("nothing is made", x.told(0), 12);
        due("nothing is done", x.cached(0, 0, 0), 12);
        due("no record", x.record(0, 12, 0), NONE);
    }

    private static void twelfthAndThirteenthRemove() {
        given(HERE, "A RECORD that would be the 13th: FULL", 1);
        keepFilesAlone(13);
        for (int f = 1; f <= 12; f++) {
            due("remove " + f, x.remove(0, 0, f), 0);
        }
        due("the 13th", x.remove(0, 0, 13), FULL);
        due("nothing is done", isKept(0, 13), true);
        due("nothing is done", x.cached(0, 0, 0), 1);
        due("no record", x.record(0, 12, 0), NONE);
    }

    /** Twelve records: 8 removals, and files 1 .. 4 written with these sizes; the root is dirty, too. */
    private static void twelveRecords(int... sizes) {
        keepFilesAlone(13);
        for (int f = 6; f <= 13; f++) {
            x.remove(0, 0, f);
        }
        for (int f = 1; f <= 4; f++) {
            x.write(0, f, f, sizes[f - 1]);
        }
        due("twelve", x.record(0, 11, 0), 0);
    }

    private static void fullAheadOfNoRoom() {
        given(HERE, "A RECORD that would be the 13th: FULL; else, without ROOM for what grows or is made: NO_ROOM", 1);
        twelveRecords(6, 6, 3, 2);
        due("2 + 7 + 7 + 4 + 3 and 1 of file 5 is 24", x.told(6), 0);
        due("no record, no room", x.write(0, 5, 5, 6), FULL);
        due("no record, no room", x.make(0, 0, 1, true), FULL);
        due("nothing went", isKept(0, 5), true);
    }

    private static void noRoomOfWhatIsNoRecord() {
        given(HERE, "else, without ROOM for what grows or is made: NO_ROOM", 1);
        twelveRecords(6, 6, 3, 2);
        due("3 is in the log; file 5 goes", x.write(0, 3, 33, 4), 0);
        due("it went", isKept(0, 5), false);
        due("nothing is left to go", x.write(0, 3, 34, 5), NO_ROOM);
        due("nothing is done", x.read(0, 3), 33);
    }

    private static void noRoomToGrow() {
        given(HERE, "without ROOM for what grows or is made: NO_ROOM; nothing is done then.", 1);
        keepFilesAlone(4);
        for (int f = 1; f <= 3; f++) {
            x.write(0, f, f, 6);
        }
        due("2 + 7 + 7 + 7 + 1 is just 24", x.told(6), 0);
        due("by 3 with 2 of the root", x.write(0, 4, 9, 3), NO_ROOM);
        kept(0, 4, 0, 1, 2, 3, 4);
        due("its value", x.cached(0, 4, 0), 0);
        due("its size", x.cached(0, 4, 1), 0);
        due("not dirty", x.cached(0, 4, 3), 0);
        due("no record", x.record(0, 3, 0), NONE);
        due("by 2 with 2 of the root", x.write(0, 4, 9, 2), 0);
        kept(0, 4, 1, 2, 3, 4);
    }

    private static void noRoomToMake() {
        given(HERE, "without ROOM for what grows or is made: NO_ROOM; nothing is done then.", 1);
        keepFilesAlone(3);
        for (int f = 1; f <= 3; f++) {
            x.write(0, f, f, 6);
        }
        due("1 is free, a directory weighs 2", x.make(0, 0, 5, true), NO_ROOM);
        due("no number is used", x.told(0), 3);
        due("no record", x.record(0, 3, 0), NONE);
        due("not dirty", x.cached(0, 0, 3), 0);
        due("no entry", x.cached(0, 0, 0), 3);
        due("a file weighs 1", x.make(0, 0, 5, false), 4);
        due("nothing is free", x.make(0, 0, 5, false), NO_ROOM);
        due("no number is used", x.told(0), 4);
    }

    private static void shrinkingNeedsNoRoom() {
        given(HERE, "without ROOM for what grows or is made: NO_ROOM", 1);
        keepFilesAlone(4);
        for (int f = 1; f <= 3; f++) {
            x.write(0, f, f, 6);
        }
        due("of the same size in a full cache", x.write(0, 3, 33, 6), 0);
        due("of size 0 again", x.write(0, 4, 44, 0), 0);
        due("smaller", x.write(0, 3, 34, 1), 0);
        due("nothing went", x.told(6), 0);
        due("5 are free", x.write(0, 4, 45, 5), 0);
        due("nothing went", x.told(6), 0);
    }

    private static void writtenAgain() {
        given(HERE, "WRITE of an object whose WRITE is in the LOG is no RECORD of its own.", 2);
        keepFilesAlone(2);
        x.write(0, 1, 5, 0);
        x.write(0, 2, 6, 0);
        due("again", x.write(0, 1, 7, 2), 0);
        records(0, 0, 1, NO, 0, 2, NO);
        nearAll(0);
        due("two", x.handIn(0), 2);
        values(1, 7, 7);
        due("the last size", x.copy(0, 1, 1), 2);
        vector(0, 1, NO, 1, 1);
    }

    private static void writtenAgainInAFullLog() {
        given(HERE, "WRITE of an object whose WRITE is in the LOG is no RECORD of its own.", 1);
        twelveRecords(0, 0, 0, 0);
        due("again", x.write(0, 1, 11, 1), 0);
        due("its value", x.cached(0, 1, 0), 11);
        due("another one", x.write(0, 5, 5, 0), FULL);
    }

    private static void removeOfWhatWasMade() {
        given(HERE, "REMOVE of an object whose MAKE is in the LOG takes that out, and its WRITE, and is no RECORD", 2);
        keepFilesAlone(1);
        x.write(0, 1, 1, 1);
        x.make(0, 0, 5, false);
        x.make(0, 0, 6, false);
        x.write(0, 2, 2, 2);
        x.write(0, 3, 3, 3);
        records(0, 0, 1, NO, 1, 2, 0, 1, 3, 0, 0, 2, NO, 0, 3, NO);
        due("remove", x.remove(0, 0, 2), 0);
        records(0, 0, 1, NO, 1, 3, 0, 0, 3, NO);
        kept(0, 3, 0, 1, 3);
        due("its entry goes", x.cached(0, 0, 0), 2);
        due("not there", x.remove(0, 0, 2), NONE);
        nearAll(0);
        due("three", x.handIn(0), 3);
        entries(0, 0, 1, 3);
        entries(1, 0, 1, 3);
        values(3, 3, 3);
        due("never at a server", x.copy(0, 2, 0), NONE);
        due("none is lost", x.told(2), 0);
    }

    private static void removeOfWhatWasMadeInAFullLog() {
        given(HERE, "REMOVE of an object whose MAKE is in the LOG takes that out, and its WRITE, and is no RECORD", 1);
        x.find(0, 0, 0);
        near(0);
        for (int o = 1; o <= 11; o++) {
            x.make(0, 0, o, false);
        }
        x.write(0, 1, 5, 0);
        due("twelve", x.record(0, 11, 0), 0);
        due("remove", x.remove(0, 0, 1), 0);
        due("ten are left", x.record(0, 9, 1), 11);
        due("ten are left", x.record(0, 10, 0), NONE);
    }

    private static void nothingIsDirty() {
        given(HERE, "(the ENTRY goes; without any RECORD then nothing is DIRTY)", 1);
        x.make(0, 0, 0, true);
        near(0);
        due("made", x.make(0, 1, 5, true), 2);
        due("made in it", x.make(0, 2, 5, false), 3);
        x.write(0, 3, 3, 3);
        due("some are there", x.remove(0, 1, 2), FULL);
        x.remove(0, 2, 3);
        due("still dirty", x.cached(0, 1, 3), 1);
        due("still dirty", x.cached(0, 2, 3), 1);
        x.remove(0, 1, 2);
        records(0);
        due("not dirty", x.cached(0, 1, 3), 0);
        due("its entry goes", x.cached(0, 1, 0), 0);
        kept(0, 3, 0, 1);
        nearAll(0);
        due("not alone any more", x.walk(0), 0);
        due("nothing to hand in", x.handIn(0), 0);
        kept(0, 3, 0, 1);
        entries(0, 1);
    }

    private static void nothingIsDirtyInTheRoot() {
        given(HERE, "(the ENTRY goes; without any RECORD then nothing is DIRTY)", 1);
        keepFilesAlone(1);
        x.make(0, 0, 5, false);
        due("dirty", x.cached(0, 0, 3), 1);
        x.remove(0, 0, 2);
        due("not dirty", x.cached(0, 0, 3), 0);
        due("one is there", x.cached(0, 0, 0), 1);
        nearAll(0);
        due("it is got again", x.find(0, 0, 1), 1);
        due("good", x.cached(0, 0, 4), 1);
    }

    private static void someRecordIsLeft() {
        given(HERE, "(the ENTRY goes; without any RECORD then nothing is DIRTY)", 1);
        keepFilesAlone(1);
        x.make(0, 0, 5, false);
        x.write(0, 1, 9, 0);
        x.remove(0, 0, 2);
        records(0, 0, 1, NO);
        due("the directory is dirty still", x.cached(0, 0, 3), 1);
        due("the file is dirty still", x.cached(0, 1, 3), 1);
    }

    private static void removeTakesItsWriteOut() {
        given(HERE, "REMOVE of another one takes its WRITE out.", 1);
        keepFilesAlone(2);
        x.write(0, 1, 5, 0);
        x.write(0, 2, 6, 0);
        x.remove(0, 0, 1);
        records(0, 0, 2, NO, 2, 1, 0);
        nearAll(0);
        due("two", x.handIn(0), 2);
        entries(0, 0, -1, 2);
        values(1, NONE);
        due("none is lost", x.told(2), 0);
        due("none is refused", x.told(3), 0);
    }

    private static void othersKeepTheirVectors() {
        given(HERE, "REMOVE of another one takes its WRITE out.", 2);
        x.make(0, 0, 1, false);
        x.make(0, 0, 2, false);
        x.make(0, 0, 3, false);
        x.write(0, 2, 2, 0);
        x.write(0, 3, 3, 0);
        x.write(0, 3, 3, 0);
        near(0);
        x.write(0, 1, 10, 0);
        x.write(0, 2, 20, 0);
        x.remove(0, 0, 3);
        x.remove(0, 0, 1);
        records(0, 0, 2, NO, 2, 3, 0, 2, 1, 0);
        nearAll(0);
        x.handIn(0);
        values(1, NONE, NONE);
        values(2, 20, 20);
        values(3, NONE, NONE);
        vector(0, 2, NO, 2, 2);
        due("no versions", x.copy(0, 2, 2), 0);
        due("none is refused", x.told(3), 0);
    }

    private static void removeInPlaceOfItsWriteInAFullLog() {
        given(HERE, "REMOVE of another one takes its WRITE out.", 1);
        twelveRecords(0, 0, 0, 0);
        due("one that was not written", x.remove(0, 0, 5), FULL);
        due("one that was written: it is the 12th again", x.remove(0, 0, 1), 0);
        due("the 12th", x.record(0, 11, 0), 2);
        due("the 12th", x.record(0, 11, 1), 1);
        due("no 13th", x.record(0, 12, 0), NONE);
        due("then the log is full again", x.remove(0, 0, 5), FULL);
    }
}
