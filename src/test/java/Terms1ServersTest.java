/** The opening of the Terms, and 1 SERVERS, CLIENTS, LINKS, sentence by sentence. */
public final class Terms1ServersTest extends Sentences {
    private static final String HERE = "Terms 1 SERVERS, CLIENTS, LINKS";

    public static void main(String[] args) {
        isThere();
        writtenOverByOneThatKnewIt();
        aClientKnowsWhatItWroteItself();
        standsAsAVersion();
        isToldAsLost();
        lastOf512Calls();
        serversAndClients();
        eachLinkIsItsOwn();
        upAtFirst();
        serversNearEachOther();
        nearIsNotHandedOn();
        aServerIsNearItself();
        aServerNearAClient();
        aloneWithoutAServer();
        aloneByItsLog();
        howManyCounts();
        serversThenClients();
        aMarkNeverGoesBackWithAVector();
        aMarkNeverGoesBackWithACopy();
        aMarkForEachObject();
        aCountBecomesTheMark();
        atMostIfEachCountIs();
        equalIsAtMost();
        theGreatest();
        noGreatest();
        end("Terms 1");
    }

    private static void isThere() {
        given("Terms", "Nothing that was written is lost unseen: it is there", 3);
        files(1);
        near(0, 1);
        x.write(0, 1, 5, 2);
        x.meet(0);
        values(1, 5, 5, 5);
        due("none is lost", x.told(2), 0);
    }

    private static void writtenOverByOneThatKnewIt() {
        given("Terms", "or written over by one that knew it", 2);
        x.make(0, 0, 1, false);
        near(0, 0);
        due("at server 0 alone", x.write(0, 1, 5, 1), 1);
        due("client 1 knows it", x.read(1, 1), 5);
        due("and writes over it", x.write(1, 1, 6, 1), 1);
        due("server 1 gets the last one", x.meet(1), 1);
        values(1, 6, 6);
        due("no versions", x.copy(0, 1, 2), 0);
        due("none is lost", x.told(2), 0);
    }

    private static void aClientKnowsWhatItWroteItself() {
        given("Terms", "(a client knows what it wrote itself before)", 3);
        x.make(0, 0, 1, false);
        near(0);
        due("alone, of the vector all 0", x.write(0, 1, 10, 1), 0);
        near(1, 0, 1);
        due("another one writes", x.write(1, 1, 20, 1), 2);
        near(0, 0);
        x.handIn(0);
        versions(0, 1, 20, 10);
        near(0, 2);
        due("of the vector all 0 again", x.read(0, 1), 0);
        near(0);
        x.write(0, 1, 30, 1);
        near(0, 0);
        x.handIn(0);
        versions(0, 1, 20, 10, 30);
        x.meet(0);
        for (int s = 0; s < 3; s++) {
            versions(s, 1, 20, 30);
        }
        due("none is lost", x.told(2), 0);
    }

    private static void standsAsAVersion() {
        given("Terms", "or stands as a version of a conflict", 2);
        x.make(0, 0, 1, false);
        x.read(1, 1);
        near(0, 0);
        near(1, 1);
        x.write(0, 1, 5, 1);
        x.write(1, 1, 6, 2);
        x.meet(0);
        versions(0, 1, 5, 6);
        versions(1, 1, 5, 6);
        due("none is lost", x.told(2), 0);
    }

    private static void isToldAsLost() {
        given("Terms", "or is told as lost", 1);
        x.make(0, 0, 1, false);
        near(0);
        x.write(0, 1, 5, 1);
        x.remove(1, 0, 1);
        nearAll(0);
        due("none yet", x.told(2), 0);
        x.handIn(0);
        due("one is lost", x.told(2), 1);
    }

    private static void lastOf512Calls() {
        given("What it is", "An object is used for at most 512 calls after it has been made", 1);
        x.make(0, 0, 1, false);
        for (int call = 2; call < 512; call++) {
            due("call " + call, x.write(0, 1, call, call % 7), 1);
        }
        due("call 512", x.vector(0, 1, NO, 0), 510);
    }

    private static void serversAndClients() {
        for (int n = 1; n <= 4; n++) {
            int count = n;
            given(HERE, "SERVERS are 0 .. N - 1 (N is 1 to 4), CLIENTS 0 .. 3.", n);
            due("the last server", x.copy(n - 1, 0, 3), 0);
            outOfBounds("one more", () -> x.copy(count, 0, 3));
            outOfBounds("server -1", () -> x.copy(-1, 0, 3));
            due("client 0", x.find(0, 0, 0), NONE);
            due("client 3", x.find(3, 0, 0), NONE);
            outOfBounds("client 4", () -> x.find(4, 0, 0));
            outOfBounds("client -1", () -> x.find(-1, 0, 0));
        }
    }

    private static void eachLinkIsItsOwn() {
        given(HERE, "There is a LINK between each two servers, and between each client and each server.", 4);
        for (int s = 0; s < 4; s++) {
            for (int other = s + 1; other < 8; other++) {
                due("link " + s + " " + other + " was up", x.link(s, other, false), true);
                due("link " + s + " " + other + " is down", x.link(s, other, false), false);
                if (other < 4) {
                    due("it is one link for both", x.link(other, s, false), false);
                }
            }
            for (int other = 4; other < 8; other++) {
                due("link " + s + " " + other + " is down", x.link(s, other, false), false);
            }
        }
        for (int s = 3; s >= 0; s--) {
            for (int other = s + 1; other < 8; other++) {
                due("link " + s + " " + other + " was down", x.link(s, other, true), true);
            }
        }
    }

    private static void upAtFirst() {
        given(HERE, "Servers and LINKS are UP (at first) or DOWN.", 4);
        for (int s = 0; s < 4; s++) {
            due("server " + s, x.server(s, true), false);
            for (int other = 0; other < 8; other++) {
                if (other != s) {
                    due("link " + s + " " + other, x.link(s, other, true), false);
                }
            }
        }
        due("near each client", x.make(3, 0, 0, false), 1);
        due("all have it", x.told(1), 4);
    }

    private static void serversNearEachOther() {
        given(HERE, "Two servers are NEAR if both are UP, and their LINK", 2);
        x.make(0, 0, 1, false);
        near(0, 0);
        x.write(0, 1, 5, 1);
        x.server(1, false);
        due("the other one is down", x.meet(0), 0);
        x.link(0, 1, false);
        x.server(1, true);
        due("the link is down", x.meet(0), 0);
        due("the link is down", x.meet(1), 0);
        x.link(1, 0, true);
        due("all is up", x.meet(0), 1);
    }

    private static void nearIsNotHandedOn() {
        given(HERE, "Two servers are NEAR if both are UP, and their LINK", 3);
        x.make(0, 0, 1, false);
        near(0, 0);
        x.write(0, 1, 5, 1);
        x.link(0, 2, false);
        due("0 meets 1", x.meet(0), 1);
        values(1, 5, 5, 0);
        due("2 meets 1", x.meet(2), 1);
        values(1, 5, 5, 5);
    }

    private static void aServerIsNearItself() {
        given(HERE, "(a server that is UP is NEAR itself)", 2);
        x.make(0, 0, 1, false);
        near(0);
        x.remove(0, 0, 1);
        near(1, 1);
        x.write(1, 1, 7, 1);
        nearAll(0);
        x.handIn(0);
        entries(1, 0, -1);
        due("what was not known stays", x.copy(1, 1, 0), 7);
        x.link(0, 1, false);
        due("1 by itself: the root changes", x.meet(1), 1);
        entries(1, 0, 1);
        x.server(1, false);
        due("not when it is down", x.meet(1), NONE);
    }

    private static void aServerNearAClient() {
        given(HERE, "a server is NEAR a client if it is UP, and their LINK.", 1);
        x.make(0, 0, 1, false);
        due("near", x.read(1, 1), 0);
        x.server(0, false);
        due("the server is down", x.handIn(1), IS_ALONE);
        x.link(0, 5, false);
        x.server(0, true);
        due("the link is down", x.handIn(1), IS_ALONE);
        due("another client's is up", x.handIn(2), 0);
        x.link(0, 5, true);
        due("both are up", x.handIn(1), 0);
    }

    private static void aloneWithoutAServer() {
        given(HERE, "A client is ALONE if no server is NEAR it", 2);
        near(0, 1);
        due("one is near", x.walk(0), 0);
        near(0);
        due("none is near", x.walk(0), IS_ALONE);
        due("another client is not", x.walk(1), 0);
    }

    private static void aloneByItsLog() {
        given(HERE, "A client is ALONE if no server is NEAR it, or its LOG has RECORDS.", 1);
        x.make(0, 0, 1, false);
        near(0);
        x.write(0, 1, 5, 1);
        nearAll(0);
        x.write(1, 1, 9, 1);
        due("a record", x.walk(0), IS_ALONE);
        due("it reads its own", x.read(0, 1), 5);
        due("it writes its own", x.write(0, 1, 6, 1), 0);
        due("it finds what it keeps alone", x.make(1, 0, 2, false), 2);
        due("it finds what it keeps alone", x.read(0, 2), MISS);
        x.handIn(0);
        due("no record", x.walk(0), 0);
        due("it is near again", x.read(0, 2), 0);
    }

    private static void howManyCounts() {
        for (int n = 1; n <= 4; n++) {
            int count = n;
            given(HERE, "VECTORS have N + 4 counts, of the servers, then of the clients; 0 at first.", n);
            vector(n - 1, 0, NO);
            x.make(0, 0, 1, false);
            vector(n - 1, 1, NO);
            due("the last one", x.vector(0, 0, NO, n + 3), 0);
            outOfBounds("one more", () -> x.vector(0, 0, NO, count + 4));
        }
    }

    private static void serversThenClients() {
        for (int n = 1; n <= 4; n++) {
            for (int c = 0; c < 4; c++) {
                given(HERE, "VECTORS have N + 4 counts, of the servers, then of the clients", n);
                int other = (c + 1) % 4;
                x.make(c, 0, 1, false);
                near(c);
                x.write(c, 1, 5, 1);
                near(other, n - 1);
                x.write(other, 1, 6, 1);
                near(c, n - 1);
                x.handIn(c);
                for (int k = 0; k < n + 4; k++) {
                    due("version of client " + c, x.vector(n - 1, 1, 1, k), k == n + c ? 1 : 0);
                    due("version at server " + (n - 1), x.vector(n - 1, 1, 0, k), k == n - 1 ? 1 : 0);
                }
            }
        }
    }

    private static void aMarkNeverGoesBackWithAVector() {
        given(HERE, "Each server has a MARK for each object, 0 at first, that never goes back.", 2);
        x.make(0, 0, 1, false);
        near(0);
        x.write(0, 1, 10, 1);
        x.write(1, 1, 20, 1);
        near(0, 0);
        x.handIn(0);
        near(0, 1);
        x.read(0, 1);
        near(0);
        x.write(0, 1, 30, 1);
        near(0, 0);
        x.handIn(0);
        vector(0, 1, NO, 3, 1, 2);
        x.meet(0);
        vector(0, 1, NO, 1, 1, 2);
        due("the vector went back, the mark did not", x.write(1, 1, 40, 1), 2);
        vector(0, 1, NO, 4, 2, 2);
        vector(1, 1, NO, 4, 2, 2);
    }

    private static void aMarkNeverGoesBackWithACopy() {
        given(HERE, "Each server has a MARK for each object, 0 at first, that never goes back.", 2);
        x.make(0, 0, 1, false);
        near(0, 0);
        near(1, 1);
        x.write(0, 1, 5, 1);
        x.write(0, 1, 6, 1);
        x.write(1, 1, 7, 1);
        x.remove(0, 0, 1);
        due("dropped at 0", x.copy(0, 1, 0), NONE);
        x.meet(0);
        vector(0, 1, NO, 0, 1);
        due("it came back, and is written", x.write(0, 1, 8, 1), 1);
        vector(0, 1, NO, 3, 1);
    }

    private static void aMarkForEachObject() {
        given(HERE, "Each server has a MARK for each object", 2);
        files(0, 0);
        vector(0, 0, NO, 2, 2);
        x.write(0, 2, 1, 0);
        near(0, 1);
        x.write(0, 2, 1, 0);
        vector(0, 1, NO, 1, 1);
        vector(0, 2, NO, 2, 2);
        vector(1, 2, NO, 2, 3);
    }

    private static void aCountBecomesTheMark() {
        given(HERE, "the MARK of each grows by 1; and in VECTORS: the count of each of them becomes its MARK.", 3);
        x.make(0, 0, 1, false);
        x.lose(1);
        x.write(0, 1, 5, 1);
        vector(0, 1, NO, 1, 1, 1);
        vector(1, 1, NO, 0, 1, 0);
        near(0, 1);
        due("of those that did it alone", x.write(0, 1, 6, 1), 1);
        vector(1, 1, NO, 0, 2, 0);
        near(0, 0, 2);
        x.write(0, 1, 7, 1);
        vector(0, 1, NO, 2, 1, 2);
        vector(2, 1, NO, 2, 1, 2);
        x.meet(0);
        vector(0, 1, NO, 3, 3, 3);
    }

    private static void atMostIfEachCountIs() {
        given(HERE, "u is AT MOST v if each of its counts is.", 2);
        x.make(0, 0, 1, false);
        x.write(0, 1, 1, 1);
        near(0);
        near(1, 0);
        due("removed by one that knows 1, 1", x.remove(0, 0, 1), 0);
        for (int i = 0; i < 3; i++) {
            x.write(1, 1, 2, 1);
        }
        vector(0, 1, NO, 4, 1);
        nearAll(0);
        x.handIn(0);
        due("one count is above: refused", x.told(3), 1);
    }

    private static void equalIsAtMost() {
        given(HERE, "u is AT MOST v if each of its counts is.", 2);
        x.make(0, 0, 1, false);
        x.write(0, 1, 1, 1);
        near(0);
        due("removed by one that knows 1, 1", x.remove(0, 0, 1), 0);
        nearAll(0);
        x.handIn(0);
        due("all counts are the same: removed", x.told(3), 0);
        values(1, NONE, NONE);
    }

    private static void theGreatest() {
        given(HERE, "THE GREATEST of some VECTORS is one that all of them are AT MOST, if there is one.", 3);
        files(0);
        near(0, 1, 2);
        x.write(0, 1, 5, 0);
        near(0, 2);
        x.write(0, 1, 6, 0);
        due("1, 1, 1 and 1, 2, 2 and 1, 2, 3", x.read(1, 1), 6);
        near(1, 0, 1);
        due("1, 1, 1 and 1, 2, 2", x.read(1, 1), 5);
        near(1, 0);
        due("one alone", x.read(1, 1), 1);
    }

    private static void noGreatest() {
        given(HERE, "THE GREATEST of some VECTORS is one that all of them are AT MOST, if there is one.", 3);
        x.make(0, 0, 1, false);
        near(0, 0);
        x.write(0, 1, 5, 0);
        x.write(0, 1, 5, 0);
        near(0, 1);
        x.write(0, 1, 6, 0);
        due("2, 0, 0 and 0, 1, 0 and all 0", x.read(1, 1), APART);
        near(1, 1, 2);
        due("0, 1, 0 and all 0", x.read(1, 1), 6);
    }
}
