/** The promises 1 to 14, and REPAIR of the Terms, sentence by sentence. */
public final class Promises1To14Test extends Sentences {
    private static final String REPAIR = "Terms REPAIR";

    public static void main(String[] args) {
        nearestOf1To4();
        allIsUp();
        linkWasOtherwise();
        linkOfServersAndClients();
        linkOfAServerAndItself();
        serverWasOtherwise();
        loseTheNext();
        loseOfEachServer();
        priorityWas();
        priorityOfOneNotMadeYet();
        priorityOutOfRange();
        findTheLeast();
        findNone();
        findStopped();
        findNames();
        readValue();
        readStopped();
        writeAnswersTheSet();
        writeAlone();
        writeStopped();
        writeSizes();
        makeAnswersTheNumber();
        makeStopped();
        make47();
        makeFullBehindGetting();
        makeFullAheadOfLogAndRoom();
        makeANameAgain();
        makeNames();
        removeAnswersTheSet();
        removeStopped();
        handInAnswers();
        handInWithoutAServer();
        walkThoseAbove0();
        walkThoseThatWereMade();
        walkUsesEach();
        walkTheGreatestFirst();
        walkTheLeastNumber();
        walkMakesRoomByLesserOnes();
        walkMakesNoRoomByEqualOnes();
        walkMakesRoomForWhatGrows();
        walkAnswersGoodOnes();
        walkAlone();
        meetCountsChanges();
        meetCountsThereAgain();
        meetIsDown();
        repairOfNoFile();
        repairOfNoVersion();
        repairAlone();
        repairTheLeastInConflict();
        repairThoseWithTheVector();
        repairWithALostPhase();
        repairAnswersHowMany();
        repairEndsPromises();
        end("Promises 1 to 14");
    }

    private static void nearestOf1To4() {
        int[] asked = {Integer.MIN_VALUE, -5, -1, 0, 1, 2, 3, 4, 5, 100, Integer.MAX_VALUE};
        int[] count = {1, 1, 1, 1, 1, 2, 3, 4, 4, 4, 4};
        for (int i = 0; i < asked.length; i++) {
            int n = count[i];
            given("Promise 1: A new object", "N is the nearest of 1 .. 4", asked[i]);
            due("the last server", x.copy(n - 1, 0, 3), 0);
            outOfBounds("one more", () -> x.copy(n, 0, 3));
            due("the last count", x.vector(0, 0, NO, n + 3), 0);
            outOfBounds("one more", () -> x.vector(0, 0, NO, n + 4));
            due("made at each", x.make(0, 0, 0, false), 1);
            due("made at each", x.told(1), n);
        }
    }

    private static void allIsUp() {
        for (int n = 1; n <= 4; n++) {
            given("Promise 1: A new object", "all is UP.", n);
            for (int s = 0; s < n; s++) {
                due("server", x.server(s, true), false);
                for (int other = 0; other < 8; other++) {
                    if (other != s && (other < n || other > 3)) {
                        due("link", x.link(s, other, true), false);
                    }
                }
            }
        }
    }

    private static void linkWasOtherwise() {
        given("Promise 2: link", "is UP, or DOWN: whether it was otherwise.", 2);
        due("up, was up", x.link(0, 1, true), false);
        due("down, was up", x.link(0, 1, false), true);
        due("down, was down", x.link(0, 1, false), false);
        due("down, was down", x.link(1, 0, false), false);
        due("up, was down", x.link(1, 0, true), true);
        due("up, was up", x.link(0, 1, true), false);
        x.server(0, false);
        due("of a server that is down, too", x.link(0, 4, false), true);
        due("of a server that is down, too", x.link(0, 4, false), false);
    }

    private static void linkOfServersAndClients() {
        given("Promise 2: link", "The LINK of a server and another one (0 .. 3) or a client (4 .. 7: client 0 .. 3)", 3);
        for (int c = 0; c < 4; c++) {
            due("of server 1 and client " + c, x.link(1, 4 + c, false), true);
            x.link(0, 4 + c, false);
            due("2 is near", x.walk(c), 0);
            due("of server 2 and client " + c, x.link(2, 4 + c, false), true);
            due("none is near", x.walk(c), IS_ALONE);
        }
        outOfBounds("no server 3", () -> x.link(0, 3, true));
        outOfBounds("no server 3", () -> x.link(3, 0, true));
        outOfBounds("no client 4", () -> x.link(0, 8, true));
        outOfBounds("-1", () -> x.link(0, -1, true));
        outOfBounds("-1", () -> x.link(-1, 0, true));
        outOfBounds("a client and a server", () -> x.link(4, 0, true));
        outOfBounds("two clients", () -> x.link(4, 5, true));
    }

    private static void linkOfAServerAndItself() {
        for (int n = 1; n <= 4; n++) {
            given("Promise 2: link", "IndexOutOfBoundsException: also of a server and itself.", n);
            for (int s = 0; s < n; s++) {
                int same = s;
                outOfBounds("down", () -> x.link(same, same, false));
                outOfBounds("up", () -> x.link(same, same, true));
                due("it meets itself still", x.meet(s), 0);
            }
        }
    }

    private static void serverWasOtherwise() {
        given("Promise 3: server", "A server is UP, or DOWN: whether it was otherwise.", 3);
        due("up, was up", x.server(1, true), false);
        due("down, was up", x.server(1, false), true);
        due("down, was down", x.server(1, false), false);
        due("another one was up", x.server(2, true), false);
        due("it does not meet", x.meet(1), NONE);
        due("up, was down", x.server(1, true), true);
        due("it meets", x.meet(1), 0);
        outOfBounds("3", () -> x.server(3, true));
        outOfBounds("-1", () -> x.server(-1, false));
    }

    private static void loseTheNext() {
        given("Promise 4: lose", "The next second phase at a server is to be LOST: whether none was already.", 2);
        due("none was", x.lose(0), true);
        due("one was", x.lose(0), false);
        due("one was", x.lose(0), false);
        x.make(0, 0, 0, false);
        due("one was lost", x.told(4), 1);
        x.make(0, 0, 0, false);
        due("and no more", x.told(4), 1);
        due("none was", x.lose(0), true);
        x.server(0, false);
        due("it stays when the server is down", x.lose(0), false);
        due("of one that is down, too", x.server(1, false), true);
        due("of one that is down, too", x.lose(1), true);
    }

    private static void loseOfEachServer() {
        given("Promise 4: lose", "The next second phase at a server is to be LOST", 3);
        due("of 1", x.lose(1), true);
        due("of 2", x.lose(2), true);
        x.make(0, 0, 0, false);
        vector(0, 0, NO, 1, 1, 1);
        vector(1, 0, NO, 0, 1, 0);
        vector(2, 0, NO, 0, 0, 1);
        due("two were lost", x.told(4), 2);
        outOfBounds("3", () -> x.lose(3));
        outOfBounds("-1", () -> x.lose(-1));
    }

    private static void priorityWas() {
        given("Promise 5: priority", "A PRIORITY of a client for an object (0 .. 47, also one that is not made yet): what it was.", 1);
        due("first", x.priority(0, 0, 9), 0);
        due("then", x.priority(0, 0, 0), 9);
        due("then", x.priority(0, 0, 5), 0);
        due("the same again", x.priority(0, 0, 5), 5);
        due("of another client", x.priority(1, 0, 3), 0);
        due("of another object", x.priority(0, 1, 3), 0);
    }

    private static void priorityOfOneNotMadeYet() {
        given("Promise 5: priority", "(0 .. 47, also one that is not made yet)", 1);
        due("first", x.priority(3, 47, 7), 0);
        due("then", x.priority(3, 47, 8), 7);
        x.priority(1, 1, 4);
        due("none is made", x.walk(1), 0);
        x.make(0, 0, 0, false);
        due("it has it when it is made", x.walk(1), 1);
        outOfBounds("48", () -> x.priority(0, 48, 1));
        outOfBounds("-1", () -> x.priority(0, -1, 1));
        outOfBounds("client 4", () -> x.priority(4, 0, 1));
        outOfBounds("client -1", () -> x.priority(-1, 0, 1));
    }

    private static void priorityOutOfRange() {
        given("Promise 5: priority", "IllegalArgumentException: p is not 0 .. 9.", 1);
        due("9", x.priority(0, 0, 9), 0);
        illegal("10", () -> x.priority(0, 0, 10));
        illegal("-1", () -> x.priority(0, 0, -1));
        illegal("greatest", () -> x.priority(0, 47, Integer.MAX_VALUE));
        illegal("least", () -> x.priority(0, 47, Integer.MIN_VALUE));
        due("as it was", x.priority(0, 0, 0), 9);
        due("0", x.priority(0, 0, 1), 0);
    }

    private static void findTheLeast() {
        given("Promise 6: find", "A DIRECTORY is got (needed): the least object that is THERE with a NAME", 2);
        x.make(0, 0, 5, true);
        x.make(0, 1, 7, false);
        x.make(0, 0, 7, false);
        x.make(0, 0, 7, true);
        due("in the root", x.find(1, 0, 7), 3);
        due("in the directory", x.find(1, 1, 7), 2);
        x.remove(0, 0, 3);
        due("a gone one is not found", x.find(1, 0, 7), 4);
        due("nor by its remover", x.find(0, 0, 7), 4);
    }

    private static void findNone() {
        given("Promise 6: find", "NONE without one", 2);
        due("empty", x.find(0, 0, 0), NONE);
        x.make(0, 0, 5, false);
        due("another name", x.find(1, 0, 4), NONE);
        due("another name", x.find(1, 0, 6), NONE);
        x.remove(0, 0, 1);
        due("gone", x.find(1, 0, 5), NONE);
    }

    private static void findStopped() {
        given("Promise 6: find", "or what stopped it.", 2);
        x.make(0, 0, 5, true);
        near(1);
        due("miss", x.find(1, 0, 5), MISS);
        near(0, 0);
        x.make(0, 0, 6, false);
        near(1, 1);
        x.make(1, 0, 7, false);
        due("apart", x.find(2, 0, 5), APART);
        x.meet(0);
        x.remove(2, 0, 1);
        due("gone", x.find(3, 1, 5), GONE);
        due("a file", x.find(3, 2, 5), WRONG);
        due("never made", x.find(3, 4, 5), NONE);
    }

    private static void findNames() {
        given("Promise 6: find", "IllegalArgumentException: name is not 0 .. 15.", 1);
        due("0", x.find(0, 0, 0), NONE);
        due("15", x.find(0, 0, 15), NONE);
        illegal("16", () -> x.find(0, 0, 16));
        illegal("-1", () -> x.find(0, 0, -1));
        illegal("greatest", () -> x.find(0, 0, Integer.MAX_VALUE));
        illegal("least", () -> x.find(0, 0, Integer.MIN_VALUE));
    }

    private static void readValue() {
        given("Promise 7: read", "A FILE is got (needed): its VALUE", 2);
        x.make(0, 0, 0, false);
        due("new", x.read(0, 1), 0);
        x.write(0, 1, Integer.MIN_VALUE, 6);
        due("least", x.read(1, 1), Integer.MIN_VALUE);
        x.write(1, 1, Integer.MAX_VALUE, 0);
        due("greatest", x.read(0, 1), Integer.MAX_VALUE);
        due("greatest", x.read(1, 1), Integer.MAX_VALUE);
    }

    private static void readStopped() {
        given("Promise 7: read", "or what stopped it.", 2);
        files(0);
        near(0);
        due("miss", x.read(0, 1), MISS);
        near(1, 0);
        near(2, 1);
        x.write(1, 1, 5, 0);
        x.write(2, 1, 6, 0);
        due("apart", x.read(3, 1), APART);
        x.meet(0);
        due("conflict", x.read(3, 1), CONFLICT);
        x.repair(3, 1, 0);
        x.remove(3, 0, 1);
        due("gone", x.read(3, 1), GONE);
        due("a directory", x.read(3, 0), WRONG);
        due("never made", x.read(3, 2), NONE);
    }

    private static void writeAnswersTheSet() {
        for (int n = 1; n <= 4; n++) {
            given("Promise 8: write", "WRITE: how many servers are the SET", n);
            x.make(0, 0, 0, false);
            due("all", x.write(0, 1, 5, 0), n);
            near(0, n - 1);
            due("one", x.write(0, 1, 6, 0), 1);
            nearAll(0);
            due("one has what is got", x.write(0, 1, 7, 0), 1);
            x.meet(0);
            due("all again", x.write(0, 1, 8, 0), n);
        }
    }

    private static void writeAlone() {
        given("Promise 8: write", "0 when it is done ALONE", 2);
        x.make(0, 0, 0, false);
        near(0);
        due("alone", x.write(0, 1, 5, 0), 0);
        nearAll(0);
        due("alone by its log", x.write(0, 1, 6, 0), 0);
        x.handIn(0);
        due("not alone", x.write(0, 1, 7, 0), 2);
    }

    private static void writeStopped() {
        given("Promise 8: write", "or what stopped it.", 2);
        files(0);
        near(0);
        due("miss", x.write(0, 1, 5, 0), MISS);
        near(1, 0);
        near(2, 1);
        x.write(1, 1, 5, 0);
        x.write(2, 1, 6, 0);
        due("apart", x.write(3, 1, 7, 0), APART);
        x.meet(0);
        due("conflict", x.write(3, 1, 7, 0), CONFLICT);
        versions(0, 1, 5, 6);
        x.repair(3, 1, 0);
        x.remove(3, 0, 1);
        due("gone", x.write(3, 1, 7, 0), GONE);
        due("a directory", x.write(3, 0, 7, 0), WRONG);
        due("never made", x.write(3, 2, 7, 0), NONE);
    }

    private static void writeSizes() {
        given("Promise 8: write", "IllegalArgumentException: size is not 0 .. 6.", 1);
        x.make(0, 0, 0, false);
        due("0", x.write(0, 1, 1, 0), 1);
        due("6", x.write(0, 1, 2, 6), 1);
        illegal("7", () -> x.write(0, 1, 3, 7));
        illegal("-1", () -> x.write(0, 1, 3, -1));
        illegal("greatest", () -> x.write(0, 1, 3, Integer.MAX_VALUE));
        illegal("least", () -> x.write(0, 1, 3, Integer.MIN_VALUE));
        values(1, 2);
        vector(0, 1, NO, 2);
        illegal("ahead of a directory", () -> x.write(0, 0, 3, 7));
        illegal("ahead of one never made", () -> x.write(0, 9, 3, 7));
    }

    private static void makeAnswersTheNumber() {
        given("Promise 9: make", "MAKE: the object's number", 2);
        due("1", x.make(0, 0, 0, true), 1);
        due("2", x.make(3, 1, 0, false), 2);
        near(0);
        due("3, alone", x.make(0, 1, 0, false), 3);
        due("4", x.make(3, 0, 0, false), 4);
        due("5, alone", x.make(0, 0, 0, true), 5);
    }

    private static void makeStopped() {
        given("Promise 9: make", "or what stopped it", 2);
        x.make(0, 0, 0, true);
        x.make(0, 0, 0, false);
        near(1);
        due("miss", x.make(1, 0, 0, false), MISS);
        due("a file", x.make(2, 2, 0, false), WRONG);
        due("never made", x.make(2, 3, 0, false), NONE);
        near(0, 0);
        x.make(0, 0, 0, false);
        near(1, 1);
        x.make(1, 0, 0, false);
        due("apart", x.make(2, 0, 0, false), APART);
        x.meet(0);
        x.remove(2, 0, 1);
        due("gone", x.make(2, 1, 0, false), GONE);
        due("no number is used", x.told(0), 4);
    }

    private static void make47() {
        given("Promise 9: make", "FULL: 47 is used up", 2);
        for (int o = 1; o <= 47; o++) {
            due("made", x.make(0, 0, o % 16, o % 3 == 0), o);
        }
        due("used up", x.make(0, 0, 0, false), FULL);
        due("used up", x.make(1, 0, 0, true), FULL);
        due("47", x.told(0), 47);
        due("no act", x.told(1), 94);
        x.remove(0, 0, 47);
        due("a removed one's number is used, too", x.make(0, 0, 0, false), FULL);
    }

    private static void useUp() {
        for (int o = 1; o <= 47; o++) {
            x.make(0, 0, 0, o == 1);
        }
    }

    private static void makeFullBehindGetting() {
        given("Promise 9: make", "(looked at behind getting the DIRECTORY, ahead of LOG and ROOM)", 2);
        useUp();
        near(1);
        due("miss", x.make(1, 0, 0, false), MISS);
        due("a file", x.make(0, 2, 0, false), WRONG);
        near(2, 0);
        near(3, 1);
        x.remove(2, 0, 2);
        x.remove(3, 0, 3);
        due("apart", x.make(0, 0, 0, false), APART);
        x.meet(0);
        x.remove(0, 0, 1);
        due("gone", x.make(0, 1, 0, false), GONE);
        int came = x.told(5);
        near(1, 0, 1);
        due("full", x.make(1, 0, 0, false), FULL);
        due("the directory was got", x.told(5), came + 1);
    }

    private static void makeFullAheadOfLogAndRoom() {
        given("Promise 9: make", "(looked at behind getting the DIRECTORY, ahead of LOG and ROOM)", 1);
        useUp();
        x.find(1, 0, 0);
        readAll(1, 2, 3, 4);
        near(1);
        for (int f = 2; f <= 4; f++) {
            x.write(1, f, f, 6);
        }
        due("1 is free, and no number", x.make(1, 0, 0, true), FULL);
        due("nothing went", isKept(1, 0), true);
        records(1, 0, 2, NO, 0, 3, NO, 0, 4, NO);
    }

    private static void makeANameAgain() {
        given("Promise 9: make", "(A NAME that is there already may be told again.)", 1);
        due("first", x.make(0, 0, 5, false), 1);
        due("again", x.make(0, 0, 5, false), 2);
        due("a directory", x.make(1, 0, 5, true), 3);
        near(0);
        due("alone", x.make(0, 0, 5, false), 4);
        near(0, 0);
        x.handIn(0);
        entries(0, 0, 1, 2, 3, 4);
        for (int i = 0; i < 4; i++) {
            due("name", x.entry(0, 0, i, 1), 5);
        }
    }

    private static void makeNames() {
        given("Promise 9: make", "IllegalArgumentException: name is not 0 .. 15.", 1);
        illegal("16", () -> x.make(0, 0, 16, false));
        illegal("-1", () -> x.make(0, 0, -1, true));
        illegal("ahead of one never made", () -> x.make(0, 9, 16, true));
        illegal("greatest", () -> x.make(0, 0, Integer.MAX_VALUE, false));
        illegal("least", () -> x.make(0, 0, Integer.MIN_VALUE, false));
        due("nothing was made", x.told(0), 0);
        due("15", x.make(0, 0, 15, false), 1);
        due("0", x.make(0, 0, 0, false), 2);
    }

    private static void removeAnswersTheSet() {
        given("Promise 10: remove", "REMOVE: as write().", 3);
        files(0, 0, 0, 0);
        due("all", x.remove(0, 0, 1), 3);
        near(0, 2);
        due("one", x.remove(0, 0, 2), 1);
        nearAll(0);
        due("one has the directory that is got", x.remove(0, 0, 3), 1);
        x.find(1, 0, 0);
        x.read(1, 4);
        near(1);
        due("alone", x.remove(1, 0, 4), 0);
    }

    private static void removeStopped() {
        given("Promise 10: remove", "REMOVE: as write().", 2);
        x.make(0, 0, 0, true);
        x.make(0, 1, 0, false);
        near(1);
        due("miss", x.remove(1, 0, 1), MISS);
        due("full", x.remove(0, 0, 1), FULL);
        due("not there", x.remove(0, 0, 2), NONE);
        due("a file", x.remove(0, 2, 1), WRONG);
        due("never made", x.remove(0, 3, 1), NONE);
        near(2, 0);
        near(3, 1);
        x.remove(2, 1, 2);
        x.make(3, 1, 0, false);
        due("apart", x.remove(0, 1, 2), APART);
        due("what it removes is apart", x.remove(0, 0, 1), APART);
    }

    private static void handInAnswers() {
        given("Promise 11: handIn", "HANDING IN: how many RECORDS there were (0 without)", 1);
        due("without", x.handIn(0), 0);
        for (int f = 1; f <= 12; f++) {
            x.make(0, 0, 0, false);
        }
        near(0);
        for (int f = 1; f <= 12; f++) {
            x.write(0, f, f, 0);
        }
        nearAll(0);
        due("twelve", x.handIn(0), 12);
        due("without", x.handIn(0), 0);
        near(0);
        x.find(1, 0, 0);
        near(1);
        x.make(1, 0, 0, false);
        nearAll(1);
        due("one", x.handIn(1), 1);
    }

    private static void handInWithoutAServer() {
        given("Promise 11: handIn", "IS_ALONE when no server is NEAR.", 2);
        x.make(0, 0, 0, false);
        near(0);
        due("without a log", x.handIn(0), IS_ALONE);
        x.write(0, 1, 5, 0);
        due("with a log", x.handIn(0), IS_ALONE);
        records(0, 0, 1, NO);
        nearAll(0);
        x.server(0, false);
        x.server(1, false);
        due("all servers are down", x.handIn(0), IS_ALONE);
        x.server(1, true);
        due("one is near", x.handIn(0), 1);
    }

    private static void walkThoseAbove0() {
        given("Promise 12: walk", "All objects with a PRIORITY above 0 that were made are got", 2);
        files(0, 0, 0);
        due("none", x.walk(0), 0);
        kept(0, 3);
        x.priority(0, 0, 1);
        x.priority(0, 2, 9);
        x.priority(1, 3, 9);
        due("two", x.walk(0), 2);
        kept(0, 3, 0, 2);
        x.priority(0, 2, 0);
        due("one", x.walk(0), 1);
        due("what has none any more stays", isKept(0, 2), true);
    }

    private static void walkThoseThatWereMade() {
        given("Promise 12: walk", "All objects with a PRIORITY above 0 that were made are got", 1);
        for (int o = 1; o < 48; o++) {
            x.priority(0, o, 1 + o % 9);
        }
        due("none is made", x.walk(0), 0);
        files(0, 0);
        due("two", x.walk(0), 2);
        due("not one that is not made", isKept(0, 3), false);
    }

    private static void walkUsesEach() {
        given("Promise 12: walk", "are got (each USED)", 1);
        files(6, 6, 6, 2, 0);
        readAll(0, 1, 2, 3, 4);
        x.priority(0, 1, 5);
        x.walk(0);
        x.priority(0, 1, 0);
        x.read(0, 5);
        due("1 was used by the walk, 2 longest ago", isKept(0, 2), false);
        kept(0, 5, 1, 3, 4, 5);
    }

    private static void walkTheGreatestFirst() {
        given("Promise 12: walk", "the greatest first, of these the least number", 1);
        files(6, 6, 6, 6);
        for (int f = 1; f <= 4; f++) {
            x.priority(0, f, f);
        }
        int came = x.told(5);
        int went = x.told(6);
        due("three have room", x.walk(0), 3);
        kept(0, 4, 2, 3, 4);
        due("three came", x.told(5), came + 3);
        due("none went for another one", x.told(6), went);
        for (int f = 1; f <= 4; f++) {
            x.priority(0, f, 0);
        }
        x.read(0, 1);
        due("4 was used first", isKept(0, 4), false);
    }

    private static void walkTheLeastNumber() {
        given("Promise 12: walk", "the greatest first, of these the least number", 1);
        files(6, 6, 6, 6);
        for (int f = 4; f >= 1; f--) {
            x.priority(0, f, 9);
        }
        due("three have room", x.walk(0), 3);
        kept(0, 4, 1, 2, 3);
        for (int f = 1; f <= 4; f++) {
            x.priority(0, f, 0);
        }
        x.read(0, 4);
        due("1 was used first", isKept(0, 1), false);
    }

    private static void walkMakesRoomByLesserOnes() {
        given("Promise 12: walk", "ROOM is made for them by what has a lesser PRIORITY alone", 1);
        files(6, 6, 6, 6, 2);
        readAll(0, 1, 2, 3, 5);
        x.priority(0, 1, 1);
        x.priority(0, 2, 2);
        x.priority(0, 4, 3);
        int went = x.told(6);
        due("1, 2 and 4", x.walk(0), 3);
        due("3 of priority 0 was used longest ago", isKept(0, 3), false);
        kept(0, 5, 1, 2, 4, 5);
        due("one went", x.told(6), went + 1);
        x.priority(0, 5, 3);
        x.priority(0, 3, 2);
        due("3 needs 7: 1 is lesser, 2 is not", x.walk(0), 4);
        kept(0, 5, 2, 3, 4, 5);
        due("another one went", x.told(6), went + 2);
    }

    private static void walkMakesNoRoomByEqualOnes() {
        given("Promise 12: walk", "ROOM is made for them by what has a lesser PRIORITY alone", 1);
        files(6, 6, 6, 6, 0);
        readAll(0, 2, 3, 4, 5);
        for (int f = 1; f <= 4; f++) {
            x.priority(0, f, 5);
        }
        x.priority(0, 5, 4);
        int went = x.told(6);
        due("1 is the first to be got, but none but 5 is lesser, which is not enough", x.walk(0), 4);
        kept(0, 5, 2, 3, 4, 5);
        due("nothing went", x.told(6), went);
        x.priority(0, 1, 6);
        due("now 5 and 2, used longest ago of those with 5, go; 5 finds room again", x.walk(0), 4);
        kept(0, 5, 1, 3, 4, 5);
        due("two went", x.told(6), went + 2);
    }

    private static void walkMakesRoomForWhatGrows() {
        given("Promise 12: walk", "ROOM is made for them by what has a lesser PRIORITY alone", 1);
        files(6, 6, 0, 6);
        readAll(0, 1, 2, 3, 4);
        x.priority(0, 1, 2);
        x.priority(0, 2, 3);
        x.priority(0, 3, 2);
        x.priority(0, 4, 1);
        x.write(3, 3, 33, 6);
        due("3 grows by 6: 4 goes, and finds no room", x.walk(0), 3);
        kept(0, 4, 1, 2, 3);
        due("what came", x.cached(0, 3, 0), 33);
    }

    private static void walkAnswersGoodOnes() {
        given("Promise 12: walk", "how many of them are GOOD then", 2);
        files(0, 0, 0, 0, 0);
        x.read(0, 5);
        for (int f = 1; f <= 4; f++) {
            x.priority(0, f, f);
        }
        due("four; 5 is good, but none of them", x.walk(0), 4);
        near(1, 0);
        near(2, 1);
        x.write(1, 1, 11, 0);
        due("1 has an old one of file 1", x.walk(0), 3);
        due("kept, but not good", x.cached(0, 1, 0), 11);
        x.write(2, 2, 22, 0);
        x.write(1, 2, 21, 0);
        due("file 2 is apart", x.walk(0), 2);
        x.meet(0);
        due("file 2 is in conflict", x.walk(0), 3);
        x.remove(3, 0, 3);
        due("file 3 is gone", x.walk(0), 2);
        due("out of the cache", isKept(0, 3), false);
    }

    private static void walkAlone() {
        given("Promise 12: walk", "by a client that is not ALONE", 1);
        x.make(0, 0, 0, false);
        x.priority(0, 1, 1);
        near(0);
        due("no server", x.walk(0), IS_ALONE);
        x.write(0, 1, 5, 0);
        nearAll(0);
        due("a log", x.walk(0), IS_ALONE);
        x.handIn(0);
        due("not alone", x.walk(0), 1);
    }

    private static void meetCountsChanges() {
        given("Promise 13: meet", "MEETING: how many times a COPY was changed, made or dropped", 3);
        files(0, 0, 0);
        due("nothing", x.meet(0), 0);
        near(0, 0);
        near(1, 1);
        x.write(0, 1, 5, 0);
        due("changed at 1 and 2", x.meet(0), 2);
        x.make(0, 0, 9, false);
        due("root changed at 3, made at 2", x.meet(0), 3 + 2);
        x.remove(0, 0, 2);
        due("root changed at 3, dropped at 2", x.meet(0), 3 + 2);
        x.write(0, 3, 6, 0);
        x.write(1, 3, 7, 0);
        due("versions at 3", x.meet(0), 3);
        x.repair(1, 3, 0);
        due("changed at 0 and 2", x.meet(0), 2);
        due("nothing", x.meet(0), 0);
    }

    private static void meetCountsThereAgain() {
        given("Promise 13: meet", "(a DIRECTORY's once more for each that is THERE again in it)", 2);
        files(0, 0);
        near(0, 0);
        near(1, 1);
        x.write(1, 1, 5, 0);
        x.write(1, 2, 6, 0);
        x.remove(0, 0, 1);
        x.remove(0, 0, 2);
        due("root 2, and 2 more for each; files made at 0", x.meet(0), 2 + 2 + 1 + 2 + 1);
    }

    private static void meetIsDown() {
        given("Promise 13: meet", "NONE: it is DOWN.", 2);
        x.server(0, false);
        due("down", x.meet(0), NONE);
        due("the other one", x.meet(1), 0);
        x.server(0, true);
        due("up", x.meet(0), 0);
        outOfBounds("2", () -> x.meet(2));
        outOfBounds("-1", () -> x.meet(-1));
    }

    /** File 1 is in conflict at all servers: 5, 6 of sizes 1, 2. */
    private static void conflict() {
        x.make(3, 0, 0, false);
        near(0, 0);
        near(1, 1);
        x.write(0, 1, 5, 1);
        x.write(1, 1, 6, 2);
        x.meet(0);
        near(0, 0);
        nearAll(1);
    }

    private static void repairOfNoFile() {
        given("Promise 14: repair", "REPAIR (NONE, WRONG ahead of IS_ALONE)", 2);
        conflict();
        due("never made", x.repair(1, 2, 0), NONE);
        due("a directory", x.repair(1, 0, 0), WRONG);
        near(1);
        due("never made, alone", x.repair(1, 2, 0), NONE);
        due("a directory, alone", x.repair(1, 0, 0), WRONG);
        due("a file, alone", x.repair(1, 1, 0), IS_ALONE);
        due("a file and no version of it, alone", x.repair(1, 1, 9), IS_ALONE);
    }

    private static void repairOfNoVersion() {
        given("Promise 14: repair", "NONE: none that is NEAR has it in CONFLICT, or no such VERSION", 2);
        x.make(3, 0, 0, false);
        due("no conflict", x.repair(3, 1, 0), NONE);
        given("Promise 14: repair", "NONE: none that is NEAR has it in CONFLICT, or no such VERSION", 2);
        conflict();
        due("-1", x.repair(1, 1, -1), NONE);
        due("2", x.repair(1, 1, 2), NONE);
        due("least", x.repair(1, 1, Integer.MIN_VALUE), NONE);
        due("greatest", x.repair(1, 1, Integer.MAX_VALUE), NONE);
        versions(0, 1, 5, 6);
        due("the last one", x.repair(1, 1, 1), 2);
        values(1, 6, 6);
        due("none any more", x.repair(1, 1, 1), NONE);
        outOfBounds("object 48", () -> x.repair(1, 48, 0));
        outOfBounds("object -1", () -> x.repair(1, -1, 0));
        outOfBounds("client 4", () -> x.repair(4, 1, 0));
        outOfBounds("client -1", () -> x.repair(-1, 1, 0));
    }

    private static void repairAlone() {
        given(REPAIR, "REPAIR of a FILE by a client that is not ALONE", 2);
        conflict();
        x.find(2, 0, 0);
        near(2);
        x.make(2, 0, 0, false);
        nearAll(2);
        due("alone by its log", x.repair(2, 1, 0), IS_ALONE);
        versions(0, 1, 5, 6);
        x.handIn(2);
        due("not alone", x.repair(2, 1, 0), 2);
    }

    private static void repairTheLeastInConflict() {
        given(REPAIR, "with the VERSION i of the least server that is NEAR and has it in CONFLICT", 3);
        x.make(3, 0, 0, false);
        x.read(0, 1);
        x.read(1, 1);
        near(0);
        near(1);
        x.write(0, 1, 10, 1);
        x.write(1, 1, 20, 2);
        x.write(3, 1, 30, 3);
        near(0, 1);
        near(1, 2);
        x.handIn(0);
        x.handIn(1);
        versions(0, 1);
        versions(1, 1, 30, 10);
        versions(2, 1, 30, 20);
        due("0 is not in conflict, 1 is the least that is", x.repair(3, 1, 1), 1);
        values(1, 30, 10, 30);
        due("size", x.copy(1, 1, 1), 1);
        versions(1, 1);
        due("now 2 is the least", x.repair(3, 1, 1), 1);
        values(1, 30, 10, 20);
        due("now none", x.repair(3, 1, 1), NONE);
        given(REPAIR, "with the VERSION i of the least server that is NEAR and has it in CONFLICT", 3);
        conflict();
        near(1, 1, 2);
        due("0 is not near", x.repair(1, 1, 1), 2);
        versions(0, 1, 5, 6);
        values(1, 5, 6, 6);
        near(1, 1);
        due("none that is near", x.repair(1, 1, 1), NONE);
    }

    private static void repairThoseWithTheVector() {
        given(REPAIR, "all that are NEAR and have a COPY with the VECTOR of that get its VALUE and SIZE, no VERSIONS", 4);
        conflict();
        vector(0, 1, NO, 2, 2, 1, 1);
        near(1, 0, 1, 3);
        int acts = x.told(1);
        due("0, 1 and 3", x.repair(1, 1, 1), 3);
        for (int s = 0; s < 4; s++) {
            if (s != 2) {
                versions(s, 1);
                due("value", x.copy(s, 1, 0), 6);
                due("size", x.copy(s, 1, 1), 2);
                vector(s, 1, NO, 3, 3, 1, 2);
            }
        }
        versions(2, 1, 5, 6);
        vector(2, 1, NO, 2, 2, 1, 1);
        nearAll(1);
        due("2 alone has that vector", x.repair(1, 1, 0), 1);
        values(1, 6, 6, 5, 6);
        due("it is no act of write, make, remove", x.told(1), acts);
        due("so they are apart", x.read(1, 1), APART);
    }

    private static void repairWithALostPhase() {
        given(REPAIR, "and are COUNTED as in 4 (LOST ones, too)", 3);
        conflict();
        vector(0, 1, NO, 2, 2, 1);
        x.lose(1);
        due("all", x.repair(1, 1, 0), 3);
        vector(0, 1, NO, 3, 3, 2);
        vector(1, 1, NO, 2, 3, 1);
        vector(2, 1, NO, 3, 3, 2);
        due("told", x.told(4), 1);
        due("over then", x.lose(1), true);
    }

    private static void repairAnswersHowMany() {
        for (int n = 2; n <= 4; n++) {
            given("Promise 14: repair", "how many servers did it", n);
            conflict();
            due("all", x.repair(1, 1, 0), n);
            given("Promise 14: repair", "how many servers did it", n);
            conflict();
            near(1, n - 1);
            due("one", x.repair(1, 1, 0), 1);
        }
    }

    private static void repairEndsPromises() {
        given(REPAIR, "PROMISES for it end there.", 3);
        x.make(3, 0, 0, false);
        near(0, 0);
        near(1, 1);
        x.write(0, 1, 5, 0);
        x.write(1, 1, 6, 0);
        x.server(2, false);
        x.meet(0);
        x.server(2, true);
        near(2, 2);
        due("an old one, by 2", x.read(2, 1), 0);
        nearAll(2);
        due("repaired at 0 and 1", x.repair(3, 1, 0), 2);
        for (int c = 0; c < 2; c++) {
            due("none by 0 and 1", x.cached(c, 1, 2), 0);
        }
        due("2 did not do it", x.cached(2, 1, 2), 4);
        due("so it is not good", x.cached(2, 1, 4), 0);
        due("but looked for", x.read(2, 1), 5);
    }
}
