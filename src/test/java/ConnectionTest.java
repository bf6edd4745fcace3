/** Promises 2 to 7: bytes in and out, hanging up, broken connections. */
public final class ConnectionTest {
    public static void main(String[] args) {
        noSuchConnection();
        feedRefused();
        bytesOfFeedAndTake();
        inputOf160();
        outputOf128();
        outputOf256();
        answersInOrder();
        broken();
        brokenByNewMsize();
        brokenWhileOutputWaits();
        brokenReleases();
        hungUp();
        hungUpReleases();
        whenDown();
        statusAndFids();
        Check.end();
    }

    private static void noSuchConnection() {
        TreeServer server = new TreeServer();
        for (int connection : new int[] {-1, 2, Integer.MAX_VALUE, Integer.MIN_VALUE}) {
            Check.is("feed", server.feed(connection, 0, 1), false);
            Check.is("waiting", server.waiting(connection), -1);
            Check.is("take", server.take(connection), 0L);
            Check.is("hangup", server.hangup(connection), false);
            Check.is("status", server.status(connection), -1);
            Check.is("fids", server.fids(connection), -1);
        }
    }

    private static void feedRefused() {
        TreeServer server = new TreeServer();
        for (int n : new int[] {-1, 0, 9, Integer.MAX_VALUE, Integer.MIN_VALUE}) {
            Check.is("feed of " + n, server.feed(0, 0x0707070707070707L, n), false);
        }
        Client client = new Client(server, 0);
        Check.is("nothing was fed", client.version(128, "9P2000"), "128 9P2000");
    }

    private static void bytesOfFeedAndTake() {
        TreeServer server = new TreeServer();
        byte[] message = Bytes.message(100, 0xBEEF, new Bytes().number(0x89ABCDEFL, 4).text("9P2000").all());
        for (byte b : message) {
            Check.is("feed one", server.feed(1, b | 0x7700L, 1), true);
        }
        Check.is("waiting", server.waiting(1), 19);
        Check.is("first eight", server.take(1), 0x80BEEF6500000013L);
        Check.is("waiting", server.waiting(1), 11);
        Check.is("next eight", server.take(1), 0x3250390006000000L);
        Check.is("the last three", server.take(1), 0x303030L);
        Check.is("none", server.take(1), 0L);
        Check.is("waiting", server.waiting(1), 0);
        Check.is("other connection", server.waiting(0), 0);
        Check.is("status of the other", server.status(0), 0);
    }

    private static void flush(Client client) {
        client.feed(Bytes.message(108, 9, new byte[] {0, 0}));
    }

    private static void unknownType(Client client) {
        client.feed(Bytes.message(99, 5, new byte[] {1}));
    }

    // Ten answers of fourteen bytes.
    private static void fillOutput(Client client) {
        for (int i = 0; i < 10; i++) {
            client.feed(Bytes.message(100, i, new Bytes().number(95, 4).text("").all()));
            Check.is("output grows", client.server.waiting(0), 14 * (i + 1));
        }
    }

    private static void inputOf160() {
        Client client = Client.of("ann");
        fillOutput(client);
        for (int i = 0; i < 19; i++) {
            unknownType(client);
        }
        Check.is("up to 159", client.server.feed(0, 8, 7), true);
        Check.is("161 would be too many", client.server.feed(0, 0, 2), false);
        Check.is("160", client.server.feed(0, 0, 1), true);
        Check.is("the input is full", client.server.feed(0, 0, 1), false);
        Check.is("nothing was handled", client.server.waiting(0), 140);
        client.server.take(0);
        Check.is("nothing yet at 132", client.server.waiting(0), 132);
        client.server.take(0);
        Check.is("one was handled", client.server.waiting(0), 124 + 13);
        Check.is("there is room for it again", client.server.feed(0, 8, 8), true);
        Check.is("and not for more", client.server.feed(0, 8, 1), false);
        Check.is("all are answered", client.takeAll().length > 18 * 13, true);
        Check.is("status", client.server.status(0), 1);
    }

    private static void outputOf128() {
        Client client = Client.of("ann");
        for (int i = 0; i < 9; i++) {
            flush(client);
        }
        for (int i = 0; i < 5; i++) {
            unknownType(client);
        }
        Check.is("128 wait", client.server.waiting(0), 128);
        flush(client);
        Check.is("at 128 one more is handled", client.server.waiting(0), 135);
        flush(client);
        Check.is("at 135 none", client.server.waiting(0), 135);
        client.server.take(0);
        Check.is("at 127 it is", client.server.waiting(0), 134);

        client = Client.of("ann");
        for (int i = 0; i < 4; i++) {
            unknownType(client);
        }
        for (int i = 0; i < 11; i++) {
            flush(client);
        }
        Check.is("129 wait", client.server.waiting(0), 129);
        flush(client);
        flush(client);
        flush(client);
        Check.is("at 129 none is handled", client.server.waiting(0), 129);
        client.server.take(0);
        Check.is("at 121 and 128 two are", client.server.waiting(0), 135);
        client.server.take(0);
        Check.is("and then the third", client.server.waiting(0), 134);
    }

    /** Behind 128 bytes comes the longest answer: a reading of 117 bytes. */
    private static void outputOf256() {
        TreeServer server = new TreeServer();
        Client ann = Client.of(server, 1, "ann");
        ann.alter(0, new Alteration().mode(Client.DIR | 0x1FF));
        Client cy = Client.of(server, 0, "cy");
        for (String name : new String[] {"a", "123456"}) {
            cy.createAt(1, name, 0x1FF, 0);
            cy.alter(1, new Alteration().group("cy"));
            cy.clunk(1);
        }
        cy.open(0, 0);
        for (int i = 0; i < 9; i++) {
            flush(cy);
        }
        for (int i = 0; i < 5; i++) {
            unknownType(cy);
        }
        cy.feed(Bytes.message(116, 9, new Bytes().number(0, 4).number(0, 8).number(117, 4).all()));
        Check.is("256 wait", server.waiting(0), 256);
        byte[] all = cy.takeAll();
        Check.is("the last answer", Bytes.numberIn(all, 128, 8), 0x75000975_00000080L);
        Check.is("its end", Bytes.textIn(all, 254, 2), "cy");
    }

    private static void answersInOrder() {
        Client client = Client.of("ann");
        for (int i = 0; i < 35; i++) {
            client.feed(Bytes.message(108, i, new byte[] {0, 0}));
        }
        byte[] answers = client.takeAll();
        Check.is("bytes", answers.length, 35 * 7);
        for (int i = 0; i < 35; i++) {
            Check.is("tag " + i, Bytes.numberIn(answers, 7 * i, 7), (long) i << 40 | 109L << 32 | 7);
        }
    }

    private static void broken() {
        for (long size : new long[] {0, 6, 129, 0x10000, 0xFFFFFFFFL, 0x80000010L}) {
            Client client = Client.of("ann");
            Check.is("three bytes", client.server.feed(0, size, 3), true);
            Check.is("status", client.server.status(0), 1);
            Check.is("the fourth byte", client.server.feed(0, size >>> 24, 1), true);
            Check.is("broken by size " + size, client.server.status(0), 2);
            Check.is("no fids", client.server.fids(0), 0);
            Check.is("takes nothing", client.server.feed(0, 7, 1), false);
            Check.is("the other is not", client.server.status(1), 0);
            Check.is("hangup", client.server.hangup(0), true);
            Check.is("status", client.server.status(0), 0);
            Check.is("works again", client.version(100, "9P2000"), "100 9P2000");
        }
        Client emptied = Client.of("ann");
        emptied.feed(Bytes.message(108, 1, new byte[] {0, 0}));
        emptied.server.feed(0, 0, 8);
        Check.is("no output", emptied.server.waiting(0), 0);
        Check.is("take", emptied.server.take(0), 0L);
        Check.is("no input that could be handled", emptied.server.waiting(0), 0);
        Check.is("status", emptied.server.status(0), 2);
        for (int size : new int[] {7, 128}) {
            Client client = Client.of("ann");
            client.server.feed(0, size, 4);
            Check.is("not broken by size " + size, client.server.status(0), 1);
        }
    }

    private static void brokenByNewMsize() {
        Client client = Client.of("ann");
        Check.is("msize", client.version(100, "9P2000"), "100 9P2000");
        client.server.feed(0, 100, 4);
        Check.is("not broken by 100", client.server.status(0), 1);
        client = Client.of("ann");
        client.version(100, "9P2000");
        client.server.feed(0, 101, 4);
        Check.is("broken by 101", client.server.status(0), 2);
        client.server.hangup(0);
        client.server.feed(0, 128, 4);
        Check.is("128 again after hangup", client.server.status(0), 0);

        // The size of a message that waits is looked at by the msize that the one ahead of it sets.
        client = Client.of("ann");
        byte[] first = Bytes.message(100, 1, new Bytes().number(96, 4).text("9P2000").all());
        client.feed(new Bytes().raw(first).number(120, 4).all());
        Check.is("broken behind a message", client.server.status(0), 2);
        Check.is("its answer is lost", client.server.waiting(0), 0);
    }

    private static void brokenWhileOutputWaits() {
        Client client = Client.of("ann");
        fillOutput(client);
        client.server.feed(0, 7, 4);
        Check.is("status", client.server.status(0), 1);
        client.server.feed(0, 99L, 3);
        Check.is("a message waits", client.server.waiting(0), 140);
        client.server.feed(0, 3, 4);
        Check.is("a bad size behind it is not looked at yet", client.server.status(0), 1);
        client.server.take(0);
        Check.is("132 wait", client.server.waiting(0), 132);
        client.server.take(0);
        Check.is("the message is handled, then it breaks", client.server.status(0), 2);
        Check.is("no output", client.server.waiting(0), 0);

        client = Client.of("ann");
        fillOutput(client);
        client.server.feed(0, 6, 4);
        Check.is("broken at once", client.server.status(0), 2);
        Check.is("no output", client.server.waiting(0), 0);
    }

    private static void brokenReleases() {
        TreeServer server = new TreeServer();
        Client ann = Client.of(server, 0, "ann");
        ann.createAt(1, "f", 0x1FF, 0x40);
        Check.is("nodes", server.nodes(), 1);
        server.feed(0, 0, 4);
        Check.is("removed as it broke", server.nodes(), 0);
        Check.is("writes", server.writes(), 4 + 3);

        server = new TreeServer();
        ann = Client.of(server, 0, "ann");
        ann.createAt(1, "f", 0x1FF, 0x40);
        server.cut(0);
        Check.is("feed that is cut off", server.feed(0, 0, 4), true);
        Check.is("down", server.up(), false);
        Check.is("not broken then", server.status(0), 0);
        server.restart();
        Check.is("nodes", server.nodes(), 1);
    }

    private static void hungUp() {
        Client client = Client.of("ann");
        client.version(100, "9P2000");
        client.attach(3, "ann");
        client.feed(Bytes.message(108, 3, new byte[] {0, 0}));
        client.server.feed(0, 9, 3);
        Check.is("fids", client.server.fids(0), 1);
        Check.is("hangup", client.server.hangup(0), true);
        Check.is("waiting", client.server.waiting(0), 0);
        Check.is("fids", client.server.fids(0), 0);
        Check.is("status", client.server.status(0), 0);
        Check.is("no version", client.attach(3, "ann"), "error version");
        Check.is("hangup again", client.server.hangup(0), true);
    }

    private static void hungUpReleases() {
        TreeServer server = new TreeServer();
        Client ann = Client.of(server, 0, "ann");
        Client other = Client.of(server, 1, "ann");
        ann.createAt(0x80000000L, "a", 0x1FF, 0x40);
        ann.createAt(7, "b", 0x1FF, 0x40);
        ann.createAt(5, "c", 0x1FF, 0x41);
        int writes = server.writes();
        server.cut(3);
        Check.is("hangup", server.hangup(0), true);
        Check.is("up", server.up(), true);
        Check.is("all three removed", server.nodes(), 0);
        Check.is("three changes of three writes", server.writes(), writes + 9);
        Check.is("the other is not hung up", server.fids(1), 1);
        Check.is("root changed", other.stat(0), "/ 80.6.0 800001fd 0 0 ann ann ann");

        ann = Client.of(server, 0, "ann");
        ann.createAt(0x80000000L, "a", 0x1FF, 0x40);
        ann.createAt(7, "b", 0x1FF, 0x40);
        server.cut(1);
        Check.is("hangup that is cut off", server.hangup(0), true);
        Check.is("down", server.up(), false);
        server.restart();
        Check.is("none was removed", server.nodes(), 2);

        ann = Client.of(server, 0, "ann");
        ann.walk(0, 0x80000000L, "a");
        ann.open(0x80000000L, 0x40);
        ann.walk(0, 7, "b");
        ann.open(7, 0x40);
        server.cut(2);
        server.hangup(0);
        server.restart();
        ann = Client.of(server, 0, "ann");
        Check.is("the lower number came first", ann.look("b"), "error noent");
        Check.is("the other is there", ann.look("a"), "a 0.0.4 1fd 0 0 ann ann ann");
    }

    private static void whenDown() {
        TreeServer server = new TreeServer();
        Client ann = Client.of(server, 0, "ann");
        Client bob = Client.of(server, 1, "bob");
        bob.feed(Bytes.message(108, 3, new byte[] {0, 0}));
        server.cut(0);
        Check.is("no answer", ann.create(0, "f", 0, 0), "none");
        for (int connection = 0; connection < 2; connection++) {
            Check.is("waiting", server.waiting(connection), 0);
            Check.is("take", server.take(connection), 0L);
            Check.is("status", server.status(connection), 0);
            Check.is("fids", server.fids(connection), 0);
            Check.is("feed", server.feed(connection, 7, 4), false);
            Check.is("hangup", server.hangup(connection), false);
        }
        Check.is("restart", server.restart(), true);
        Check.is("msize 128 again", ann.version(200, "9P2000"), "128 9P2000");
    }

    private static void statusAndFids() {
        Client client = new Client(new TreeServer(), 1);
        Check.is("status", client.server.status(1), 0);
        client.version(128, "9P2000.u");
        Check.is("agreed", client.server.status(1), 1);
        for (int i = 0; i < 6; i++) {
            client.attach(i * 1000000000L, "cy");
            Check.is("fids", client.server.fids(1), i + 1);
        }
        Check.is("six", client.attach(77, "cy"), "error fids");
        Check.is("fids", client.server.fids(1), 6);
        Check.is("fids of the other", client.server.fids(0), 0);
        client.clunk(1000000000L);
        Check.is("fids", client.server.fids(1), 5);
        client.version(128, "8P");
        Check.is("not agreed any more", client.server.status(1), 0);
        Check.is("fids", client.server.fids(1), 0);
    }
}
