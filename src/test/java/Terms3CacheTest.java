/** 3 THE CACHE and TO GET, sentence by sentence. */
public final class Terms3CacheTest extends Sentences {
    private static final String HERE = "Terms 3 THE CACHE";
    private static final String GET = "Terms 3 TO GET";

    public static void main(String[] args) {
        noVersionsInACache();
        eachHasItsOwnCache();
        aFileWeighsOneAndItsSize();
        aDirectoryWeighsTwo();
        justFull();
        prioritiesOfEachClient();
        roomForWhatComesIn();
        roomForWhatGrows();
        asLongAsThereIsTooLittle();
        dirtyStays();
        usedByThisCallStays();
        whatGrowsStaysItself();
        leastPriorityFirst();
        usedLongestAgo();
        notEnoughSoNothingGoes();
        justEnough();
        usedByRead();
        usedByWrite();
        usedByFind();
        usedByMake();
        usedByRemove();
        usedByRemoveThatIsFull();
        notUsedByLooking();
        goodIfAllPromised();
        goodByOneAtLeast();
        promisesEndWithTheLink();
        promisesEndWithTheServer();
        aloneItsOwnCopy();
        itsOwnCopyIfGood();
        goneWithoutACopy();
        goneWhereNoneIsNear();
        apart();
        conflict();
        aLesserOneInConflict();
        theLeastWithTheGreatest();
        inPlaceOfWhatWasThere();
        withoutRoomWhatWasThereGoes();
        thoseWithThatVectorPromised();
        end("Terms 3");
    }

    private static void noVersionsInACache() {
        given(HERE, "of a client has COPIES (without VERSIONS)", 2);
        x.make(0, 0, 1, false);
        near(0, 0);
        near(1, 1);
        x.write(0, 1, 5, 1);
        x.write(1, 1, 6, 1);
        x.meet(0);
        due("in conflict", x.read(2, 1), CONFLICT);
        due("so it does not come in", isKept(2, 1), false);
        due("what was kept stays", x.cached(0, 1, 0), 5);
    }

    private static void eachHasItsOwnCache() {
        given(HERE, "of a client has COPIES (without VERSIONS)", 1);
        x.make(0, 0, 1, false);
        kept(0, 1, 0, 1);
        kept(1, 1);
        x.read(1, 1);
        kept(1, 1, 1);
    }

    private static void aFileWeighsOneAndItsSize() {
        given(HERE, "A FILE weighs 1 and its SIZE", 1);
        files(6, 6, 6, 2, 0);
        int went = x.told(6);
        readAll(0, 1, 2, 3, 4);
        due("7 + 7 + 7 + 3", x.told(6), went);
        kept(0, 5, 1, 2, 3, 4);
        x.read(0, 5);
        due("a file of size 0 weighs 1, too", x.told(6), went + 1);
        kept(0, 5, 2, 3, 4, 5);
    }

    private static void aDirectoryWeighsTwo() {
        given(HERE, "a DIRECTORY 2", 1);
        files(6, 6, 6, 0);
        x.make(3, 0, 9, true);
        int went = x.told(6);
        readAll(0, 1, 2, 3);
        x.find(0, 5, 0);
        x.read(0, 4);
        due("7 + 7 + 7 + 2 + 1", x.told(6), went);
        readAll(1, 1, 2, 3);
        x.find(1, 5, 0);
        x.find(1, 0, 0);
        due("7 + 7 + 7 + 2 + 2 is too much", x.told(6), went + 1);
        kept(1, 5, 0, 2, 3, 5);
    }

    private static void justFull() {
        given(HERE, "all together at most 24.", 1);
        for (int i = 0; i < 25; i++) {
            x.make(3, 0, 0, false);
        }
        int went = x.told(6);
        for (int f = 1; f <= 24; f++) {
            x.read(0, f);
        }
        due("24 files of size 0", x.told(6), went);
        due("the first is kept", isKept(0, 1), true);
        x.read(0, 25);
        due("one goes for the 25th", x.told(6), went + 1);
        due("the first went", isKept(0, 1), false);
        due("the second is kept", isKept(0, 2), true);
    }

    private static void prioritiesOfEachClient() {
        given(HERE, "Each object has a PRIORITY for each client (0 .. 9, 0 at first).", 1);
        for (int c = 0; c < 4; c++) {
            for (int o = 0; o < 48; o++) {
                due("at first", x.priority(c, o, (c + o) % 10), 0);
            }
        }
        for (int c = 0; c < 4; c++) {
            for (int o = 0; o < 48; o++) {
                due("its own", x.priority(c, o, 9), (c + o) % 10);
            }
        }
        illegal("10", () -> x.priority(0, 0, 10));
        illegal("-1", () -> x.priority(0, 0, -1));
    }

    private static void roomForWhatComesIn() {
        given(HERE, "ROOM is made for what comes in, or grows", 1);
        files(6, 6, 6, 6);
        readAll(0, 1, 2, 3);
        int went = x.told(6);
        due("read", x.read(0, 4), 4);
        kept(0, 4, 2, 3, 4);
        due("one went", x.told(6), went + 1);
    }

    private static void roomForWhatGrows() {
        given(HERE, "ROOM is made for what comes in, or grows", 1);
        files(6, 6, 6, 2);
        readAll(0, 1, 2, 3, 4);
        int went = x.told(6);
        x.write(0, 4, 9, 2);
        x.write(0, 4, 9, 1);
        x.write(0, 4, 9, 2);
        due("it grew within its room", x.told(6), went);
        x.write(0, 4, 9, 3);
        due("by one too much", x.told(6), went + 1);
        kept(0, 4, 2, 3, 4);
    }

    private static void asLongAsThereIsTooLittle() {
        given(HERE, "as long as there is too little", 1);
        files(1, 1, 1, 6, 6, 6);
        readAll(0, 1, 2, 3, 4, 5);
        int went = x.told(6);
        x.read(0, 6);
        due("3 are wanted: two files of 2 go, the third stays", x.told(6), went + 2);
        kept(0, 6, 3, 4, 5, 6);
    }

    private static void dirtyStays() {
        given(HERE, "what is not DIRTY, and not USED by this call, goes", 1);
        files(6, 6, 2, 6);
        readAll(0, 1, 2, 3, 4);
        near(0);
        x.write(0, 1, 9, 6);
        readAll(0, 2, 4);
        due("3 grows by 4", x.write(0, 3, 9, 6), 0);
        kept(0, 4, 1, 3, 4);
    }

    private static void usedByThisCallStays() {
        given(HERE, "what is not DIRTY, and not USED by this call, goes", 1);
        files(6, 6, 6, 6);
        x.find(0, 0, 15);
        readAll(0, 1, 2, 3);
        for (int f = 1; f <= 3; f++) {
            x.priority(0, f, 9);
        }
        due("4 is got when the root is used, which has the least priority", x.remove(0, 0, 4), 1);
        kept(0, 4, 0, 2, 3);
    }

    private static void whatGrowsStaysItself() {
        given(HERE, "what is not DIRTY, and not USED by this call, goes", 1);
        files(0, 6, 6, 6);
        readAll(0, 1, 2, 3, 4);
        for (int f = 2; f <= 4; f++) {
            x.priority(0, f, 9);
        }
        due("1 grows, which has the least priority", x.write(0, 1, 5, 6), 1);
        kept(0, 4, 1, 3, 4);
        due("as it was written", x.cached(0, 1, 0), 5);
        due("as it was written", x.cached(0, 1, 1), 6);
    }

    private static void leastPriorityFirst() {
        given(HERE, "goes, the least PRIORITY first", 1);
        files(6, 6, 6, 2, 0);
        readAll(0, 1, 2, 3, 4);
        x.priority(0, 1, 2);
        x.priority(0, 2, 3);
        x.priority(0, 3, 1);
        x.priority(0, 4, 9);
        x.priority(1, 3, 9);
        x.read(0, 5);
        kept(0, 5, 1, 2, 4, 5);
    }

    private static void usedLongestAgo() {
        given(HERE, "of these what was USED longest ago", 1);
        files(6, 6, 6, 2, 0);
        x.priority(0, 2, 1);
        readAll(0, 2, 4, 3, 1);
        x.read(0, 5);
        due("4 is the first one of priority 0", isKept(0, 4), false);
        kept(0, 5, 1, 2, 3, 5);
    }

    private static void notEnoughSoNothingGoes() {
        given(HERE, "If that would not be enough, nothing goes, and there is no ROOM.", 1);
        files(6, 6, 6, 0, 0);
        readAll(0, 1, 2, 3, 4, 5);
        near(0);
        for (int f = 1; f <= 3; f++) {
            x.write(0, f, 9, 6);
        }
        int went = x.told(6);
        due("4 grows by 3, of 1 that is free and 1 of file 5", x.write(0, 4, 9, 3), NO_ROOM);
        kept(0, 5, 1, 2, 3, 4, 5);
        due("nothing went", x.told(6), went);
    }

    private static void justEnough() {
        given(HERE, "If that would not be enough, nothing goes, and there is no ROOM.", 1);
        files(6, 6, 6, 0, 0);
        readAll(0, 1, 2, 3, 4, 5);
        near(0);
        for (int f = 1; f <= 3; f++) {
            x.write(0, f, 9, 6);
        }
        due("4 grows by 2, of 1 that is free and 1 of file 5", x.write(0, 4, 9, 2), 0);
        kept(0, 5, 1, 2, 3, 4);
    }

    private static void usedByRead() {
        given(HERE, "What is told below as \"needed\" is USED when it is got.", 1);
        files(6, 6, 6, 2, 6);
        readAll(0, 1, 2, 3, 4);
        x.read(0, 1);
        x.read(0, 5);
        kept(0, 5, 1, 3, 4, 5);
    }

    private static void usedByWrite() {
        given(HERE, "What is told below as \"needed\" is USED when it is got.", 1);
        files(6, 6, 6, 2, 6);
        readAll(0, 1, 2, 3, 4);
        x.write(0, 1, 9, 6);
        x.read(0, 5);
        kept(0, 5, 1, 3, 4, 5);
    }

    private static void usedByFind() {
        given(HERE, "What is told below as \"needed\" is USED when it is got.", 1);
        files(6, 6, 6, 1);
        x.find(0, 0, 15);
        readAll(0, 1, 2, 3);
        due("also when it finds nothing", x.find(0, 0, 15), NONE);
        x.read(0, 4);
        kept(0, 4, 0, 2, 3, 4);
    }

    private static void usedByMake() {
        given(HERE, "What is told below as \"needed\" is USED when it is got.", 1);
        files(6, 6, 6, 0);
        x.find(0, 0, 15);
        readAll(0, 1, 2, 3);
        due("made", x.make(0, 0, 1, false), 5);
        x.read(0, 4);
        kept(0, 5, 0, 2, 3, 4, 5);
    }

    private static void usedByRemove() {
        given(HERE, "What is told below as \"needed\" is USED when it is got.", 1);
        files(6, 6, 6, 0, 1);
        x.find(0, 0, 15);
        readAll(0, 1, 2, 3, 4);
        due("removed", x.remove(0, 0, 4), 1);
        x.read(0, 5);
        kept(0, 5, 0, 2, 3, 5);
    }

    private static void usedByRemoveThatIsFull() {
        given(HERE, "What is told below as \"needed\" is USED when it is got.", 1);
        x.make(3, 0, 0, true);
        x.make(3, 1, 0, false);
        x.make(3, 0, 0, false);
        x.make(3, 0, 0, false);
        x.make(3, 0, 0, false);
        x.write(3, 3, 3, 6);
        x.write(3, 4, 4, 6);
        x.find(0, 1, 0);
        x.find(0, 0, 0);
        readAll(0, 3, 4);
        x.write(3, 5, 5, 6);
        due("the directory is got", x.remove(0, 0, 1), FULL);
        x.read(0, 5);
        due("2 + 2 + 7 + 7 and 7: 3 was used longest ago", isKept(0, 3), false);
        kept(0, 5, 0, 1, 4, 5);
    }

    private static void notUsedByLooking() {
        given(HERE, "of these what was USED longest ago", 1);
        files(6, 6, 6, 2, 0);
        readAll(0, 1, 2, 3, 4);
        x.cached(0, 1, 0);
        x.priority(0, 1, 0);
        x.copy(0, 1, 0);
        due("a file where a directory is wanted is not got", x.find(0, 1, 0), WRONG);
        x.read(0, 5);
        kept(0, 5, 2, 3, 4, 5);
    }

    private static void goodIfAllPromised() {
        given(HERE, "A COPY in the CACHE is GOOD if all servers that are NEAR PROMISED", 3);
        files(0);
        x.read(0, 1);
        due("all three", x.cached(0, 1, 4), 1);
        near(1, 2);
        x.write(1, 1, 5, 0);
        due("0 and 1", x.cached(0, 1, 2), 3);
        due("not 2, which is near", x.cached(0, 1, 4), 0);
        near(0, 0, 1);
        due("2 is not near", x.cached(0, 1, 4), 1);
        due("so it is not looked for", x.read(0, 1), 1);
        near(0, 0, 1, 2);
        due("2 is near again", x.cached(0, 1, 4), 0);
        due("so it is looked for", x.read(0, 1), 5);
    }

    private static void goodByOneAtLeast() {
        given(HERE, "A COPY in the CACHE is GOOD if all servers that are NEAR PROMISED (one at least).", 2);
        files(0);
        x.read(0, 1);
        near(0, 1);
        due("one", x.cached(0, 1, 4), 1);
        near(0);
        due("none", x.cached(0, 1, 4), 0);
    }

    private static void promisesEndWithTheLink() {
        given(HERE, "What a client and a server PROMISED ends when they are NEAR no more.", 2);
        files(0, 0);
        readAll(0, 1, 2);
        readAll(1, 1);
        x.link(1, 4, false);
        due("that of 1 ended", x.cached(0, 1, 2), 1);
        due("for all files", x.cached(0, 2, 2), 1);
        due("not for other clients", x.cached(1, 1, 2), 3);
        x.link(1, 4, true);
        due("it does not come back", x.cached(0, 1, 2), 1);
        x.link(0, 1, false);
        due("a link of two servers is another one", x.cached(1, 1, 2), 3);
        int came = x.told(5);
        x.read(0, 1);
        due("it came again", x.told(5), came + 1);
        due("it is promised again", x.cached(0, 1, 2), 3);
    }

    private static void promisesEndWithTheServer() {
        given(HERE, "What a client and a server PROMISED ends when they are NEAR no more.", 2);
        files(0);
        readAll(0, 1);
        readAll(1, 1);
        x.server(0, false);
        due("that of 0 ended", x.cached(0, 1, 2), 2);
        due("for all clients", x.cached(1, 1, 2), 2);
        x.server(0, true);
        due("it does not come back", x.cached(0, 1, 2), 2);
        due("it is not good", x.cached(1, 1, 4), 0);
    }

    private static void aloneItsOwnCopy() {
        given(GET, "of a client that is ALONE: its COPY in the CACHE (MISS without one).", 1);
        files(0, 0);
        x.read(0, 1);
        near(0);
        x.write(3, 1, 50, 0);
        due("what it kept", x.read(0, 1), 1);
        due("what it did not keep", x.read(0, 2), MISS);
        due("what it did not keep", x.find(0, 0, 0), MISS);
    }

    private static void itsOwnCopyIfGood() {
        given(GET, "Of another one: its COPY, if that is GOOD.", 2);
        files(0);
        int came = x.told(5);
        x.read(0, 1);
        x.read(0, 1);
        x.find(0, 0, 0);
        x.find(0, 0, 0);
        due("each came once", x.told(5), came + 2);
        x.write(3, 1, 7, 0);
        due("not if it is not good", x.read(0, 1), 7);
        due("it came again", x.told(5), came + 3);
    }

    private static void goneWithoutACopy() {
        given(GET, "None: it goes out of the CACHE: GONE.", 2);
        files(0);
        x.read(0, 1);
        x.remove(3, 0, 1);
        due("kept as long as it is not looked for", isKept(0, 1), true);
        due("gone", x.read(0, 1), GONE);
        due("out of the cache", isKept(0, 1), false);
        near(0);
        due("so alone it is a miss", x.read(0, 1), MISS);
    }

    private static void goneWhereNoneIsNear() {
        given(GET, "None: it goes out of the CACHE: GONE.", 2);
        near(0, 1);
        x.make(0, 0, 1, false);
        near(0, 0);
        due("the copy is at 1", x.read(0, 1), GONE);
        kept(0, 1, 0);
        near(0, 1);
        due("it is there", x.read(0, 1), 0);
    }

    private static void apart() {
        given(GET, "If they have no GREATEST VECTOR: APART.", 2);
        files(0);
        x.read(2, 1);
        near(0, 0);
        near(1, 1);
        x.write(0, 1, 5, 0);
        x.write(1, 1, 6, 0);
        due("read", x.read(2, 1), APART);
        due("what was there stays", x.cached(2, 1, 0), 1);
        due("write", x.write(2, 1, 7, 0), APART);
        values(1, 5, 6);
        near(2, 1);
        due("one has the greatest of its own", x.read(2, 1), 6);
    }

    private static void conflict() {
        given(GET, "If that of the least server with the GREATEST is in CONFLICT: CONFLICT.", 2);
        x.make(0, 0, 1, false);
        near(0);
        x.write(0, 1, 10, 0);
        x.write(1, 1, 20, 0);
        x.read(2, 1);
        near(0, 1);
        x.handIn(0);
        due("1 has the greatest", x.read(2, 1), CONFLICT);
        due("what was there stays", x.cached(2, 1, 0), 20);
        due("write", x.write(2, 1, 30, 0), CONFLICT);
        due("remove", x.remove(2, 0, 1), CONFLICT);
        near(2, 0);
        due("0 is not in conflict", x.read(2, 1), 20);
    }

    private static void aLesserOneInConflict() {
        given(GET, "If that of the least server with the GREATEST is in CONFLICT: CONFLICT.", 2);
        x.make(0, 0, 1, false);
        near(0, 0);
        near(1, 1);
        x.write(0, 1, 5, 0);
        x.write(1, 1, 6, 0);
        x.meet(0);
        due("repaired at 1", x.repair(1, 1, 1), 1);
        due("0 is in conflict, 1 has the greatest", x.read(2, 1), 6);
        due("1 promised", x.cached(2, 1, 2), 2);
    }

    private static void theLeastWithTheGreatest() {
        given(GET, "If that of the least server with the GREATEST is in CONFLICT: CONFLICT. Else it is this one", 2);
        x.find(2, 0, 0);
        near(0, 0);
        near(1, 1);
        near(2);
        x.make(0, 0, 7, false);
        x.make(1, 0, 8, false);
        x.make(2, 0, 9, false);
        nearAll(2);
        x.handIn(2);
        vector(0, 0, NO, 2, 2);
        vector(1, 0, NO, 2, 2);
        entries(0, 0, 1, 3);
        entries(1, 0, 2, 3);
        due("that of 0", x.find(3, 0, 7), 1);
        due("not that of 1", x.find(3, 0, 8), NONE);
        due("promised by both, as their vector is the same", x.cached(3, 0, 2), 3);
        x.link(0, 7, false);
        due("it is good without 0, too", x.find(3, 0, 7), 1);
        x.link(1, 7, false);
        x.link(1, 7, true);
        due("that of 1", x.find(3, 0, 8), 2);
    }

    private static void inPlaceOfWhatWasThere() {
        given(GET, "it comes into the CACHE, in place of what was there, if there is ROOM", 1);
        files(6, 6, 6, 2);
        readAll(0, 1, 2, 3, 4);
        x.write(3, 1, 11, 6);
        int went = x.told(6);
        int came = x.told(5);
        due("another value of the same weight", x.read(0, 1), 11);
        due("came", x.told(5), came + 1);
        due("nothing went", x.told(6), went);
        due("the new one", x.cached(0, 1, 0), 11);
        x.write(3, 4, 44, 3);
        went = x.told(6);
        due("greater by one", x.read(0, 4), 44);
        due("so one went", x.told(6), went + 1);
        kept(0, 4, 1, 3, 4);
    }

    private static void withoutRoomWhatWasThereGoes() {
        given(GET, "if there is ROOM (if not, what was there goes)", 1);
        files(6, 6, 6, 2);
        for (int f = 1; f <= 4; f++) {
            x.priority(0, f, 5);
        }
        due("just 24", x.walk(0), 4);
        x.write(3, 4, 44, 3);
        int went = x.told(6);
        int came = x.told(5);
        due("4 is greater by one, and none has a lesser priority", x.walk(0), 3);
        kept(0, 4, 1, 2, 3);
        due("that is no making of room", x.told(6), went);
        due("nothing came", x.told(5), came);
    }

    private static void thoseWithThatVectorPromised() {
        given(GET, "those with that VECTOR (and without VERSIONS) have PROMISED.", 4);
        files(0);
        near(0, 1, 2);
        x.write(0, 1, 5, 0);
        due("read", x.read(1, 1), 5);
        due("1 and 2", x.cached(1, 1, 2), 6);
        near(2, 2, 3);
        due("read", x.read(2, 1), 5);
        due("2 alone", x.cached(2, 1, 2), 4);
    }
}
