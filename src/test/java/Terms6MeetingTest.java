/** 6 MEETING, sentence by sentence. */
public final class Terms6MeetingTest extends Sentences {
    private static final String HERE = "Terms 6 MEETING";

    public static void main(String[] args) {
        theGroup();
        inTheOrderOfNumbers();
        goneWithoutACopy();
        goneForAllOfTheGroup();
        goneOfTheSameVector();
        goneOfALesserVector();
        thereAgainForAGreaterVector();
        thereAgainForOneThatIsApart();
        thereAgainForTheLeastServer();
        goneWithVersionsThatWereKnown();
        thereAgainWithVersions();
        directoryWithOneThere();
        directoryWithOneThereThatIsGoneByAnother();
        directoryWithAGoneOneThatWasWritten();
        directoryWithAGoneOneByTheGreaterOfBoth();
        directoryInADirectoryWithOneThere();
        directoryInADirectoryIsDropped();
        thereAgainIsCounted();
        theVectorIsNoMore();
        theVectorIsNoMoreAtAny();
        entriesGoWithTheCopy();
        thereAgainEachOnItsOwn();
        directoriesThatAreTheSame();
        directoriesWithOtherEntries();
        directoriesWithAnotherFirstEntry();
        directoriesWithAnotherLastEntry();
        directoriesGoneWithOtherVectors();
        directoriesWithOtherVectors();
        directoriesThatAreMissing();
        goneIfOneHasItSo();
        goneWithTheGreaterOfBoth();
        greaterOfAllDirectories();
        greaterOfThoseOutsideTheGroup();
        candidatesByServers();
        candidatesOnce();
        withoutThoseThatAreAtMost();
        withoutOneThatWasRemovedElsewhere();
        oneForAll();
        oneIsNoChangeWhereItIsSo();
        oneOutOfVersions();
        severalForAll();
        severalAreTheSame();
        severalOfOneServer();
        severalAreJustSix();
        severalAreMoreThanSix();
        greaterOfAllVersions();
        greaterOfThatFileAlone();
        promisesEndWhereItChanged();
        promisesEndForAFile();
        promisesEndForDirectories();
        promisesEndForWhatIsDropped();
        end("Terms 6");
    }

    /** Client c makes its acts at server c alone. */
    private static void eachAtItsServer() {
        for (int c = 0; c < servers; c++) {
            near(c, c);
        }
    }

    private static void allAre(int file, int value) {
        for (int s = 0; s < servers; s++) {
            due("value at " + s, x.copy(s, file, 0), value);
        }
        due("alike", x.told(7), 1);
    }

    private static void theGroup() {
        given(HERE, "of a server that is UP and all that are NEAR it, the GROUP.", 4);
        files(0);
        eachAtItsServer();
        x.write(1, 1, 7, 0);
        x.link(1, 2, false);
        x.server(3, false);
        due("1 and 2 need not be near one another", x.meet(0), 2);
        values(1, 7, 7, 7, 1);
        x.write(2, 1, 8, 0);
        due("1 and 0", x.meet(1), 0);
        due("2 and 0", x.meet(2), 1);
        values(1, 8, 7, 8, 1);
        due("down", x.meet(3), NONE);
        x.server(3, true);
        due("3 and all", x.meet(3), 2);
        allAre(1, 8);
    }

    private static void inTheOrderOfNumbers() {
        given(HERE, "Objects in the order of their numbers", 2);
        near(0, 0);
        x.make(0, 0, 1, true);
        x.make(0, 1, 2, true);
        x.make(0, 2, 3, false);
        x.write(0, 3, 9, 1);
        due("root 2, directories 2 each, file 1", x.meet(1), 2 + 2 + 2 + 1);
        allAre(3, 9);
        entries(1, 0, 1);
        entries(1, 1, 2);
        entries(1, 2, 3);
        vector(1, 1, NO, 2, 1);
        vector(1, 2, NO, 2, 1);
    }

    private static void goneWithoutACopy() {
        given(HERE, "as far as one of the GROUP has a COPY, or one is THERE by the ENTRIES now", 2);
        files(0);
        x.remove(0, 0, 1);
        due("nothing is to be done", x.meet(0), 0);
        entries(0, 0, -1);
        values(1, NONE, NONE);
    }

    private static void goneForAllOfTheGroup() {
        given(HERE, "each is THERE or GONE by the ENTRIES of its DIRECTORY, which are all alike in the GROUP then.", 3);
        files(0);
        eachAtItsServer();
        x.remove(2, 0, 1);
        entries(0, 0, 1);
        due("root 3, dropped 2", x.meet(0), 3 + 2);
        for (int s = 0; s < 3; s++) {
            entries(s, 0, -1);
        }
        values(1, NONE, NONE, NONE);
    }

    private static void goneOfTheSameVector() {
        given(HERE, "GONE: if all COPIES and VERSIONS of it in the GROUP are AT MOST the VECTOR with which it is GONE", 2);
        files(3);
        eachAtItsServer();
        x.remove(0, 0, 1);
        due("root 2, dropped 1", x.meet(1), 2 + 1);
        values(1, NONE, NONE);
    }

    private static void goneOfALesserVector() {
        given(HERE, "GONE: if all COPIES and VERSIONS of it in the GROUP are AT MOST the VECTOR with which it is GONE", 2);
        files(3);
        eachAtItsServer();
        x.write(0, 1, 5, 0);
        x.remove(0, 0, 1);
        due("root 2, dropped 1", x.meet(1), 2 + 1);
        values(1, NONE, NONE);
    }

    private static void thereAgainForAGreaterVector() {
        given(HERE, "Else it is THERE again, in all of the GROUP", 3);
        files(3);
        eachAtItsServer();
        x.write(1, 1, 7, 0);
        x.remove(0, 0, 1);
        due("root 3, root 3 again, file 2", x.meet(2), 3 + 3 + 2);
        for (int s = 0; s < 3; s++) {
            entries(s, 0, 1);
        }
        allAre(1, 7);
    }

    private static void thereAgainForOneThatIsApart() {
        given(HERE, "Else it is THERE again, in all of the GROUP", 2);
        files(3);
        eachAtItsServer();
        x.write(0, 1, 6, 0);
        x.write(0, 1, 6, 0);
        x.write(1, 1, 7, 0);
        x.remove(0, 0, 1);
        due("3, 1 is gone, 1, 2 is there", x.meet(0), 2 + 2 + 1);
        allAre(1, 7);
        vector(0, 1, NO, 1, 2);
    }

    private static void thereAgainForTheLeastServer() {
        given(HERE, "GONE: if all COPIES and VERSIONS of it in the GROUP are AT MOST the VECTOR with which it is GONE", 3);
        for (int writer = 0; writer < 3; writer++) {
            files(3);
            int f = x.told(0);
            nearAll(0);
            x.find(0, 0, 0);
            x.read(0, f);
            near(0, writer);
            near(1, (writer + 1) % 3);
            x.write(0, f, 50 + writer, 0);
            x.remove(1, 0, f);
            due("root 3, root 3 again, file 2", x.meet(0), 3 + 3 + 2);
            allAre(f, 50 + writer);
        }
    }

    private static void goneWithVersionsThatWereKnown() {
        given(HERE, "GONE: if all COPIES and VERSIONS of it in the GROUP are AT MOST the VECTOR with which it is GONE", 2);
        files(0);
        eachAtItsServer();
        x.write(0, 1, 5, 0);
        x.write(1, 1, 6, 0);
        x.meet(0);
        x.repair(1, 1, 0);
        x.remove(2, 0, 1);
        versions(0, 1, 5, 6);
        due("0 drops its versions", x.meet(0), 1);
        values(1, NONE, NONE);
        due("no versions", x.version(0, 1, 0, 0), NONE);
        due("they were written over by one that knew them", x.told(2), 0);
    }

    private static void thereAgainWithVersions() {
        given(HERE, "GONE: if all COPIES and VERSIONS of it in the GROUP are AT MOST the VECTOR with which it is GONE", 3);
        files(0);
        eachAtItsServer();
        x.write(1, 1, 5, 0);
        x.write(2, 1, 6, 0);
        x.link(0, 1, false);
        x.link(0, 2, false);
        x.meet(1);
        x.remove(0, 0, 1);
        x.link(0, 1, true);
        x.link(0, 2, true);
        due("root 3, root 3 again, file 3", x.meet(0), 3 + 3 + 3);
        for (int s = 0; s < 3; s++) {
            versions(s, 1, 5, 6);
            entries(s, 0, 1);
        }
    }

    private static void directoryWithOneThere() {
        given(HERE, "of a DIRECTORY none of what is in it is THERE by any of these COPIES alone (GONE by none)", 2);
        x.make(0, 0, 1, true);
        x.make(0, 1, 2, false);
        eachAtItsServer();
        x.remove(0, 1, 2);
        x.remove(0, 0, 1);
        values(1, NONE, 0);
        due("root 2, root 2 again, directory 2, file 1", x.meet(0), 2 + 2 + 2 + 1);
        for (int s = 0; s < 2; s++) {
            entries(s, 0, 1);
            entries(s, 1, 2);
        }
        allAre(2, 0);
    }

    private static void directoryWithOneThereThatIsGoneByAnother() {
        given(HERE, "THERE by any of these COPIES alone (GONE by none)", 3);
        x.make(0, 0, 1, true);
        x.make(0, 1, 2, false);
        near(0, 0, 2);
        x.remove(0, 1, 2);
        near(0, 0);
        x.remove(0, 0, 1);
        entries(1, 1, 2);
        entries(2, 1, -2);
        due("root 3, directory 2, file 1", x.meet(1), 3 + 2 + 1);
        values(1, NONE, NONE, NONE);
        values(2, NONE, NONE, NONE);
        entries(2, 0, -1);
    }

    private static void directoryWithAGoneOneThatWasWritten() {
        given(HERE, "and all that is GONE in it could be dropped so, too", 3);
        x.make(0, 0, 1, true);
        x.make(0, 1, 2, false);
        near(1, 1);
        x.write(1, 2, 7, 0);
        near(0, 0, 2);
        x.remove(0, 1, 2);
        near(0, 0);
        x.remove(0, 0, 1);
        due("root 3 twice, directory 3 twice, file 2", x.meet(1), 3 + 3 + 3 + 3 + 2);
        for (int s = 0; s < 3; s++) {
            entries(s, 0, 1);
            entries(s, 1, 2);
        }
        allAre(2, 7);
    }

    private static void directoryWithAGoneOneByTheGreaterOfBoth() {
        given(HERE, "(by the greater of each count of the VECTORS with which it is GONE there)", 4);
        x.make(0, 0, 1, true);
        x.make(0, 1, 2, false);
        x.find(2, 1, 0);
        x.find(3, 1, 0);
        near(2, 2);
        near(3, 3);
        x.write(2, 2, 22, 0);
        x.write(3, 2, 33, 0);
        near(2);
        near(3);
        x.remove(2, 1, 2);
        x.remove(3, 1, 2);
        near(3, 0, 2);
        x.handIn(3);
        near(2, 1, 3);
        x.handIn(2);
        due("none is refused", x.told(3), 0);
        values(2, NONE, NONE, 22, 33);
        near(0, 0);
        near(1, 1);
        due("at 0", x.remove(0, 0, 1), 1);
        due("at 1", x.remove(1, 0, 1), 1);
        due("root 4, directory 2, file 2", x.meet(0), 4 + 2 + 2);
        values(1, NONE, NONE, NONE, NONE);
        values(2, NONE, NONE, NONE, NONE);
    }

    private static void directoryInADirectoryWithOneThere() {
        given(HERE, "and all that is GONE in it could be dropped so, too", 3);
        x.make(0, 0, 1, true);
        x.make(0, 1, 2, true);
        x.make(0, 2, 3, false);
        near(0, 0, 2);
        x.remove(0, 2, 3);
        x.remove(0, 1, 2);
        near(0, 0);
        x.remove(0, 0, 1);
        due("root 3 twice, directories 3 twice and 3, file 2", x.meet(2), 3 + 3 + 3 + 3 + 3 + 2);
        for (int s = 0; s < 3; s++) {
            entries(s, 0, 1);
            entries(s, 1, 2);
            entries(s, 2, 3);
        }
        allAre(3, 0);
    }

    private static void directoryInADirectoryIsDropped() {
        given(HERE, "all these COPIES, also of what is in it, are dropped.", 4);
        x.make(0, 0, 1, true);
        x.make(0, 1, 2, true);
        x.make(0, 2, 3, false);
        x.make(0, 0, 4, false);
        near(0, 0, 2, 3);
        x.remove(0, 2, 3);
        near(0, 0, 3);
        x.remove(0, 1, 2);
        near(0, 0);
        x.remove(0, 0, 1);
        due("root 4, directories 3 and 2, file 1", x.meet(1), 4 + 3 + 2 + 1);
        for (int o = 1; o <= 3; o++) {
            values(o, NONE, NONE, NONE, NONE);
        }
        values(4, 0, 0, 0, 0);
        due("again nothing", x.meet(1), 0);
    }

    private static void thereAgainIsCounted() {
        given(HERE, "and the GROUP is COUNTED for its DIRECTORY, in each VECTOR.", 3);
        files(0);
        eachAtItsServer();
        x.link(0, 2, false);
        x.write(1, 1, 7, 0);
        x.remove(0, 0, 1);
        vector(0, 0, NO, 2, 1, 1);
        due("0 and 1: root 2, root 2 again, file 1", x.meet(0), 2 + 2 + 1);
        vector(0, 0, NO, 4, 3, 1);
        vector(1, 0, NO, 4, 3, 1);
        vector(2, 0, NO, 1, 1, 1);
    }

    private static void theVectorIsNoMore() {
        given(HERE, "(the VECTOR with which it was GONE is no more)", 3);
        x.make(0, 0, 1, false);
        x.link(0, 2, false);
        x.link(1, 2, false);
        near(0, 0, 2);
        x.write(0, 1, 5, 0);
        near(0, 0);
        x.remove(0, 0, 1);
        near(1, 1);
        x.write(1, 1, 6, 0);
        due("0 and 1: there again", x.meet(0), 2 + 2 + 1);
        near(1, 0, 1);
        due("removed by one that knows 0, 1, 0", x.remove(1, 0, 1), 2);
        x.link(0, 2, true);
        x.link(1, 2, true);
        due("2 has 1, 0, 1: there again", x.meet(0), 3 + 3 + 2);
        allAre(1, 5);
    }

    private static void theVectorIsNoMoreAtAny() {
        given(HERE, "(the VECTOR with which it was GONE is no more)", 3);
        x.make(0, 0, 1, false);
        x.link(0, 2, false);
        x.link(1, 2, false);
        near(0, 0, 2);
        x.write(0, 1, 5, 0);
        near(0, 0);
        x.remove(0, 0, 1);
        near(1, 1);
        x.write(1, 1, 6, 0);
        x.meet(0);
        near(1, 0);
        due("removed at 0 by one that knows 0, 1, 0; 1 has it there again", x.remove(1, 0, 1), 1);
        x.link(0, 2, true);
        due("2 has 1, 0, 1: root 3, there again 3, versions 3", x.meet(0), 3 + 3 + 3);
        versions(0, 1, 6, 5);
    }

    private static void entriesGoWithTheCopy() {
        given(HERE, "all these COPIES, also of what is in it, are dropped.", 3);
        x.make(0, 0, 1, true);
        x.make(0, 1, 2, false);
        near(0, 0, 2);
        x.write(0, 2, 5, 0);
        near(0, 0);
        x.remove(0, 1, 2);
        x.remove(0, 0, 1);
        due("dropped at 0, with the entry that is gone with 1, 0, 1", x.copy(0, 1, 3), NONE);
        near(1, 1);
        x.make(1, 1, 3, false);
        x.link(0, 2, false);
        x.link(1, 2, false);
        x.meet(0);
        entries(0, 1, 2, 3);
        x.remove(1, 1, 2);
        x.link(0, 2, true);
        x.link(1, 2, true);
        x.meet(0);
        entries(2, 1, 2, 3);
        allAre(2, 5);
    }

    private static void thereAgainEachOnItsOwn() {
        given(HERE, "Else it is THERE again, in all of the GROUP", 2);
        files(0, 0, 0);
        eachAtItsServer();
        for (int f = 1; f <= 3; f++) {
            if (f != 2) {
                x.write(1, f, 10 * f, 0);
            }
            x.remove(0, 0, f);
        }
        due("root 2, 1 again 2 and 1, 2 dropped 1, 3 again 2 and 1", x.meet(0), 2 + 3 + 1 + 3);
        entries(0, 0, 1, -2, 3);
        entries(1, 0, 1, -2, 3);
        vector(0, 0, NO, 9, 6);
        vector(1, 0, NO, 9, 6);
    }

    private static void directoriesThatAreTheSame() {
        given(HERE, "A DIRECTORY: if not all of the GROUP have COPIES with the same ENTRIES and VECTOR", 3);
        x.make(0, 0, 1, true);
        x.make(0, 1, 2, false);
        due("nothing", x.meet(0), 0);
        vector(0, 0, NO, 1, 1, 1);
        vector(0, 1, NO, 1, 1, 1);
    }

    private static void directoriesWithOtherEntries() {
        given(HERE, "A DIRECTORY: if not all of the GROUP have COPIES with the same ENTRIES and VECTOR", 2);
        x.find(2, 0, 0);
        near(2);
        eachAtItsServer();
        x.make(0, 0, 7, false);
        x.make(1, 0, 8, false);
        x.make(2, 0, 9, false);
        nearAll(2);
        x.handIn(2);
        vector(0, 0, NO, 2, 2);
        vector(1, 0, NO, 2, 2);
        due("root 2, files 1 and 1", x.meet(0), 2 + 1 + 1);
        for (int s = 0; s < 2; s++) {
            entries(s, 0, 1, 2, 3);
            vector(s, 0, NO, 3, 3);
        }
    }

    private static void directoriesWithAnotherFirstEntry() {
        given(HERE, "A DIRECTORY: if not all of the GROUP have COPIES with the same ENTRIES and VECTOR", 2);
        x.find(2, 0, 0);
        near(2);
        near(0, 0);
        x.make(0, 0, 7, false);
        x.make(2, 0, 9, false);
        nearAll(2);
        x.handIn(2);
        vector(0, 0, NO, 2, 1);
        vector(1, 0, NO, 2, 1);
        entries(0, 0, 1, 2);
        entries(1, 0, 2);
        due("root 2, file 1", x.meet(0), 2 + 1);
        entries(1, 0, 1, 2);
        vector(1, 0, NO, 3, 2);
    }

    private static void directoriesWithAnotherLastEntry() {
        given(HERE, "A DIRECTORY: if not all of the GROUP have COPIES with the same ENTRIES and VECTOR", 2);
        x.find(2, 0, 0);
        near(2);
        near(0, 1);
        x.make(2, 0, 9, false);
        x.make(0, 0, 7, false);
        nearAll(2);
        x.handIn(2);
        vector(0, 0, NO, 1, 2);
        vector(1, 0, NO, 1, 2);
        entries(0, 0, 1);
        entries(1, 0, 1, 2);
        due("root 2, file 1", x.meet(0), 2 + 1);
        entries(0, 0, 1, 2);
    }

    private static void directoriesGoneWithOtherVectors() {
        given(HERE, "A DIRECTORY: if not all of the GROUP have COPIES with the same ENTRIES and VECTOR", 2);
        x.make(2, 0, 7, false);
        near(2);
        eachAtItsServer();
        x.write(0, 1, 5, 0);
        x.write(1, 1, 6, 0);
        x.remove(0, 0, 1);
        x.remove(1, 0, 1);
        x.make(2, 0, 9, false);
        nearAll(2);
        x.handIn(2);
        for (int s = 0; s < 2; s++) {
            vector(s, 0, NO, 3, 3);
            entries(s, 0, -1, 2);
        }
        due("what is gone with another vector is another entry", x.told(7), 0);
        due("root 2", x.meet(0), 2);
        vector(1, 0, NO, 4, 4);
        due("alike", x.told(7), 1);
    }

    private static void directoriesWithOtherVectors() {
        given(HERE, "A DIRECTORY: if not all of the GROUP have COPIES with the same ENTRIES and VECTOR", 2);
        x.lose(1);
        x.make(0, 0, 7, false);
        vector(0, 0, NO, 1, 1);
        vector(1, 0, NO, 0, 1);
        due("the entries are the same", x.meet(0), 2);
        vector(0, 0, NO, 2, 2);
        vector(1, 0, NO, 2, 2);
    }

    private static void directoriesThatAreMissing() {
        given(HERE, "each gets all ENTRIES that one has (by the numbers of objects)", 3);
        eachAtItsServer();
        x.make(2, 0, 1, true);
        x.make(1, 0, 2, false);
        x.make(0, 0, 3, false);
        x.make(2, 1, 4, false);
        due("root 3, directory 3, files 2 each", x.meet(0), 3 + 3 + 2 + 2 + 2);
        for (int s = 0; s < 3; s++) {
            entries(s, 0, 1, 2, 3);
            entries(s, 1, 4);
            vector(s, 1, NO, 1, 1, 2);
            vector(s, 4, NO);
        }
        due("alike", x.told(7), 1);
    }

    private static void goneIfOneHasItSo() {
        given(HERE, "GONE if one has it so", 3);
        files(0, 0);
        eachAtItsServer();
        x.remove(1, 0, 2);
        x.make(2, 0, 3, false);
        x.meet(0);
        for (int s = 0; s < 3; s++) {
            entries(s, 0, 1, -2, 3);
        }
    }

    private static void goneWithTheGreaterOfBoth() {
        given(HERE, "with the greater of each count of the VECTORS of those", 4);
        files(0);
        near(0, 0, 2);
        near(1, 1, 3);
        x.write(0, 1, 5, 0);
        x.write(1, 1, 6, 0);
        near(0, 0);
        near(1, 1);
        x.remove(0, 0, 1);
        x.remove(1, 0, 1);
        values(1, NONE, NONE, 5, 6);
        due("2 was known by one, 3 by the other one: root 4, dropped 2", x.meet(0), 4 + 2);
        values(1, NONE, NONE, NONE, NONE);
    }

    private static void greaterOfAllDirectories() {
        given(HERE, "and as VECTOR the greater of each count of all COPIES, the GROUP being COUNTED.", 4);
        eachAtItsServer();
        x.make(0, 0, 1, false);
        x.make(0, 0, 1, false);
        x.make(1, 0, 1, false);
        x.make(3, 0, 1, false);
        x.server(3, false);
        x.meet(2);
        for (int s = 0; s < 3; s++) {
            vector(s, 0, NO, 3, 2, 1, 0);
        }
        vector(3, 0, NO, 0, 0, 0, 1);
        x.server(3, true);
        x.meet(2);
        vector(3, 0, NO, 4, 3, 2, 2);
    }

    private static void greaterOfThoseOutsideTheGroup() {
        given(HERE, "and as VECTOR the greater of each count of all COPIES, the GROUP being COUNTED.", 3);
        near(0, 0, 2);
        x.make(0, 0, 1, false);
        x.make(0, 0, 1, true);
        x.server(2, false);
        vector(1, 0, NO);
        x.meet(1);
        vector(0, 0, NO, 3, 1, 2);
        vector(1, 0, NO, 3, 1, 2);
        vector(0, 2, NO, 1, 1, 0);
        vector(1, 2, NO, 1, 1, 0);
    }

    private static void candidatesByServers() {
        given(HERE, "A FILE: CANDIDATES are the COPIES without VERSIONS, and the VERSIONS of others, by servers", 3);
        x.make(3, 0, 1, false);
        for (int c = 0; c < 3; c++) {
            x.read(c, 1);
        }
        near(3);
        x.write(3, 1, 40, 4);
        eachAtItsServer();
        x.write(2, 1, 30, 3);
        x.write(1, 1, 20, 2);
        x.write(0, 1, 10, 1);
        near(3, 1);
        x.handIn(3);
        due("at 1 two versions", x.copy(1, 1, 2), 2);
        due("all three", x.meet(2), 3);
        for (int s = 0; s < 3; s++) {
            versions(s, 1, 10, 20, 40, 30);
            due("size", x.version(s, 1, 2, 1), 4);
            due("size of the copy", x.copy(s, 1, 1), 1);
            vector(s, 1, 0, 1);
            vector(s, 1, 1, 0, 1);
            vector(s, 1, 2, 0, 0, 0, 0, 0, 0, 1);
            vector(s, 1, 3, 0, 0, 1);
        }
    }

    private static void candidatesOnce() {
        given(HERE, "each (VALUE, SIZE, VECTOR) once", 4);
        files(0);
        eachAtItsServer();
        x.write(0, 1, 10, 0);
        x.write(1, 1, 20, 0);
        x.link(0, 2, false);
        x.link(0, 3, false);
        due("0 and 1", x.meet(0), 2);
        near(2, 2, 3);
        x.write(2, 1, 30, 0);
        x.link(0, 2, true);
        x.link(0, 3, true);
        due("the versions of 0 and 1 are the same, and the copies of 2 and 3", x.meet(0), 4);
        for (int s = 0; s < 4; s++) {
            versions(s, 1, 10, 20, 30);
        }
    }

    private static void withoutThoseThatAreAtMost() {
        given(HERE, "without those whose VECTOR is AT MOST that of another CANDIDATE with another VECTOR.", 4);
        files(0);
        eachAtItsServer();
        x.write(2, 1, 10, 1);
        x.write(1, 1, 20, 2);
        x.write(3, 1, 30, 3);
        near(0, 0, 1);
        due("written over by one that knew 20", x.write(0, 1, 21, 4), 1);
        due("by one server after the other: 1, 21, 10, 30; all know what 0 has", x.meet(3), 4);
        for (int s = 0; s < 4; s++) {
            versions(s, 1, 21, 10, 30);
            due("size", x.version(s, 1, 0, 1), 4);
            due("size", x.version(s, 1, 1, 1), 1);
            due("size", x.version(s, 1, 2, 1), 3);
            vector(s, 1, 0, 1, 3, 1, 1);
            vector(s, 1, 1, 1, 1, 2, 1);
            vector(s, 1, 2, 1, 1, 1, 2);
        }
        due("none is lost", x.told(2), 0);
    }

    /**
     * Marks never go back, so server 2 brings into the vector of 33 a count above that of 11, which the writer of 33
     * never saw: 11 was removed at 2, by one that knew it, and goes from 0, too. The words ask for that.
     */
    private static void withoutOneThatWasRemovedElsewhere() {
        given(HERE, "without those whose VECTOR is AT MOST that of another CANDIDATE with another VECTOR.", 3);
        x.make(3, 0, 0, false);
        eachAtItsServer();
        x.link(0, 1, false);
        x.link(1, 2, false);
        x.write(2, 1, 11, 0);
        due("0 and 2", x.meet(2), 1);
        due("removed by one that knew 11", x.remove(2, 0, 1), 1);
        x.write(1, 1, 22, 0);
        x.link(0, 2, false);
        x.link(1, 2, true);
        due("the roots join, it is there again, 2 has a copy again", x.meet(1), 2 + 2 + 1);
        near(1, 1, 2);
        due("at 1 and 2", x.write(1, 1, 33, 0), 2);
        vector(0, 1, NO, 0, 0, 1);
        vector(1, 1, NO, 0, 2, 2);
        x.link(0, 1, true);
        x.link(0, 2, true);
        due("the roots join, and 0 takes 33", x.meet(0), 3 + 1);
        allAre(1, 33);
        versions(0, 1);
        vector(0, 1, NO, 0, 2, 2);
        due("none is lost", x.told(2), 0);
    }

    private static void oneForAll() {
        given(HERE, "One: all get it as COPY, without VERSIONS (no change where it is so).", 4);
        near(0, 1);
        x.make(0, 0, 1, false);
        x.write(0, 1, 5, 2);
        due("root 4, file 3", x.meet(0), 4 + 3);
        for (int s = 0; s < 4; s++) {
            due("value", x.copy(s, 1, 0), 5);
            due("size", x.copy(s, 1, 1), 2);
            vector(s, 1, NO, 0, 1);
            versions(s, 1);
        }
    }

    private static void oneIsNoChangeWhereItIsSo() {
        given(HERE, "One: all get it as COPY, without VERSIONS (no change where it is so).", 3);
        files(0);
        due("nothing", x.meet(0), 0);
        near(0, 1, 2);
        x.write(0, 1, 5, 0);
        due("0 alone", x.meet(0), 1);
        due("nothing", x.meet(0), 0);
        vector(0, 1, NO, 1, 2, 2);
    }

    private static void oneOutOfVersions() {
        given(HERE, "One: all get it as COPY, without VERSIONS", 3);
        files(0);
        eachAtItsServer();
        x.write(0, 1, 10, 0);
        x.write(1, 1, 20, 0);
        x.meet(2);
        near(2, 0);
        due("repaired at 0", x.repair(2, 1, 1), 1);
        due("1 and 2", x.meet(2), 2);
        for (int s = 0; s < 3; s++) {
            versions(s, 1);
            vector(s, 1, NO, 4, 3, 2);
        }
        allAre(1, 20);
    }

    private static void severalForAll() {
        given(HERE, "Several: if not all of the GROUP have the same COPY with just these VERSIONS: all get these as VERSIONS", 4);
        files(0);
        eachAtItsServer();
        x.write(0, 1, 10, 1);
        x.write(3, 1, 20, 2);
        x.server(2, false);
        due("three of four", x.meet(1), 3);
        versions(0, 1, 10, 20);
        versions(1, 1, 10, 20);
        versions(2, 1);
        versions(3, 1, 10, 20);
        due("none is lost", x.told(2), 0);
        x.server(2, true);
        due("one has no versions: all change", x.meet(1), 4);
        versions(2, 1, 10, 20);
    }

    private static void severalAreTheSame() {
        given(HERE, "Several: if not all of the GROUP have the same COPY with just these VERSIONS", 2);
        files(0);
        eachAtItsServer();
        x.write(0, 1, 10, 1);
        x.write(1, 1, 20, 2);
        due("both", x.meet(0), 2);
        vector(0, 1, NO, 3, 3);
        due("nothing", x.meet(0), 0);
        due("nothing", x.meet(1), 0);
        vector(1, 1, NO, 3, 3);
    }

    private static void severalOfOneServer() {
        given(HERE, "Several: if not all of the GROUP have the same COPY with just these VERSIONS", 3);
        x.make(0, 0, 1, false);
        near(0);
        x.write(0, 1, 10, 1);
        near(1, 0, 1);
        x.write(1, 1, 20, 1);
        near(0, 0);
        x.handIn(0);
        near(0, 2);
        x.read(0, 1);
        near(0);
        x.write(0, 1, 30, 1);
        near(0, 0);
        x.handIn(0);
        versions(0, 1, 20, 10, 30);
        vector(0, 1, NO, 3, 1, 0, 2);
        x.link(0, 1, false);
        x.link(0, 2, false);
        due("0 by itself leaves out the one that was known", x.meet(0), 1);
        versions(0, 1, 20, 30);
        vector(0, 1, NO, 4, 1, 0, 2);
        due("then nothing", x.meet(0), 0);
    }

    /** Server 0 gets as many versions of file 1 as clients hand in, beside what was written there; each server is written at. */
    private static void manyVersions(int handedIn) {
        x.make(0, 0, 1, false);
        for (int c = 1; c <= handedIn; c++) {
            x.read(c, 1);
            near(c);
            x.write(c, 1, 10 + c, 0);
        }
        for (int s = 0; s < servers; s++) {
            near(0, s);
            x.write(0, 1, 100 + s, 0);
        }
        for (int c = 1; c <= handedIn; c++) {
            near(c, 0);
            x.handIn(c);
        }
    }

    private static void severalAreJustSix() {
        given(HERE, "all get these as VERSIONS (the first 6, others are LOST)", 4);
        manyVersions(2);
        due("all four", x.meet(3), 4);
        for (int s = 0; s < 4; s++) {
            versions(s, 1, 100, 11, 12, 101, 102, 103);
        }
        due("none is lost", x.told(2), 0);
    }

    private static void severalAreMoreThanSix() {
        given(HERE, "all get these as VERSIONS (the first 6, others are LOST)", 4);
        manyVersions(3);
        due("all four", x.meet(3), 4);
        for (int s = 0; s < 4; s++) {
            versions(s, 1, 100, 11, 12, 13, 101, 102);
        }
        due("one is lost, once for all servers", x.told(2), 1);
        vector(0, 1, NO, 5, 2, 2, 2, 0, 1, 1, 1);
        due("then nothing", x.meet(3), 0);
        due("one is lost", x.told(2), 1);
    }

    private static void greaterOfAllVersions() {
        given(HERE, "and as VECTOR the greater of each count of all COPIES and VERSIONS, the GROUP being COUNTED.", 3);
        x.make(3, 0, 1, false);
        x.read(0, 1);
        x.read(1, 1);
        near(3);
        x.write(3, 1, 40, 0);
        eachAtItsServer();
        x.write(0, 1, 10, 0);
        x.write(0, 1, 11, 0);
        x.write(1, 1, 20, 0);
        near(3, 0);
        x.handIn(3);
        vector(0, 1, NO, 3, 0, 0, 0, 0, 0, 1);
        x.server(2, false);
        x.meet(0);
        for (int s = 0; s < 2; s++) {
            versions(s, 1, 11, 40, 20);
            vector(s, 1, NO, 4, 2, 0, 0, 0, 0, 1);
        }
        vector(2, 1, NO);
    }

    private static void greaterOfThatFileAlone() {
        given(HERE, "and as VECTOR the greater of each count of all COPIES and VERSIONS, the GROUP being COUNTED.", 3);
        x.make(0, 0, 1, false);
        near(0, 0, 2);
        x.make(0, 0, 1, false);
        near(0, 0);
        near(1, 1);
        x.write(0, 1, 5, 0);
        x.write(1, 1, 6, 0);
        x.server(2, false);
        due("root 2, versions 2, the other file 1", x.meet(0), 2 + 2 + 1);
        vector(1, 0, NO, 3, 2, 2);
        vector(0, 1, NO, 2, 2, 0);
        vector(1, 1, NO, 2, 2, 0);
    }

    private static void promisesEndWhereItChanged() {
        given(HERE, "PROMISES by a server for what was changed there end.", 3);
        files(0, 0);
        readAll(3, 1, 2);
        near(0, 0);
        x.write(0, 1, 5, 0);
        due("0 changed", x.cached(3, 1, 2), 6);
        x.read(3, 1);
        due("0 alone has it", x.cached(3, 1, 2), 1);
        x.meet(1);
        due("nothing changed at 0", x.cached(3, 1, 2), 1);
        due("nothing changed", x.cached(3, 2, 2), 7);
        due("it is 5 by 0 alone", x.cached(3, 1, 4), 0);
        x.read(3, 1);
        due("now by all", x.cached(3, 1, 2), 7);
        x.meet(1);
        due("nothing changed", x.cached(3, 1, 2), 7);
        near(1, 1);
        x.write(0, 1, 6, 0);
        x.write(1, 1, 7, 0);
        due("2 has the old one", x.cached(3, 1, 2), 4);
        x.meet(0);
        due("versions at all", x.cached(3, 1, 2), 0);
    }

    private static void promisesEndForAFile() {
        given(HERE, "PROMISES by a server for what was changed there end.", 4);
        files(0);
        x.read(3, 1);
        near(0, 0);
        x.write(0, 1, 5, 0);
        x.link(0, 2, false);
        due("all but 0", x.cached(3, 1, 2), 14);
        due("1 and 3", x.meet(0), 2);
        due("2 did not change", x.cached(3, 1, 2), 4);
    }

    private static void promisesEndForDirectories() {
        given(HERE, "PROMISES by a server for what was changed there end.", 3);
        files(0, 0);
        x.find(3, 0, 0);
        readAll(3, 1, 2);
        x.link(0, 2, false);
        near(0, 0);
        x.make(0, 0, 9, false);
        near(3, 1, 2);
        due("1 and 2 as before", x.cached(3, 0, 2), 6);
        x.meet(0);
        due("1 changed, too", x.cached(3, 0, 2), 4);
        due("the files did not", x.cached(3, 2, 2), 6);
    }

    private static void promisesEndForWhatIsDropped() {
        given(HERE, "PROMISES by a server for what was changed there end.", 3);
        x.make(0, 0, 1, true);
        x.make(0, 1, 2, false);
        x.find(3, 1, 0);
        x.read(3, 2);
        near(0, 0, 2);
        x.remove(0, 1, 2);
        near(0, 0);
        x.remove(0, 0, 1);
        due("1 keeps the file", x.cached(3, 2, 2), 2);
        x.meet(0);
        due("dropped at 1, with its directory", x.cached(3, 2, 2), 0);
        due("dropped at 1 and 2", x.cached(3, 1, 2), 0);
        due("gone", x.read(3, 2), GONE);
    }
}
