/** The edges of the calls themselves, promises 1 to 7 and 11 to 13; those of the log stand in LogEdgesTest. */
public final class CallEdgesTest {
    private static final int[] NO_CONNECTIONS = {-1, 2, 3, 256, Integer.MAX_VALUE, Integer.MIN_VALUE};

    public static void main(String[] args) {
        aNewObject();
        feedToNoConnection();
        feedOfWrongCounts();
        feedOfEveryCount();
        feedOfTheLowestBytes();
        inputOf160();
        inputThatWouldHaveMore();
        feedToABrokenOne();
        feedToAServerThatIsDown();
        waitingAtNone();
        takeOfEveryCount();
        takeOfNone();
        takeHandles();
        takeOfMoreThanWasThere();
        hangupOfNone();
        hangupWhenDown();
        hangupClears();
        hangupOfABrokenOne();
        statusOfNone();
        statusOfAll();
        fidsOfNone();
        fidsThatAreGoneCount();
        refusedCallsChangeNothing();
        Check.end();
    }

    private static void aNewObject() {
        Check.sentence("The root alone, empty connections, the clock at 0, up, no cut.");
        TreeServer server = new TreeServer();
        Check.is("nodes", server.nodes(), 0);
        Check.is("free", server.free(), 24);
        Check.is("writes", server.writes(), 0);
        Check.is("up", server.up(), true);
        for (int connection = 0; connection < 2; connection++) {
            Check.is("waiting", server.waiting(connection), 0);
            Check.is("take", server.take(connection), 0L);
            Check.is("status", server.status(connection), 0);
            Check.is("fids", server.fids(connection), 0);
        }
        Client bob = Client.of(server, 0, "bob");
        Check.is("no cut", bob.createAt(1, "f", 0x1FF, 0), "0.0.1");
        Check.is("the clock", bob.stat(1), "f 0.0.1 1fd 0 0 bob ann bob");
        Check.is("objects have nothing in common", new TreeServer().nodes(), 0);
    }

    private static void feedToNoConnection() {
        Check.sentence("false (refused) if there is no such connection");
        TreeServer server = new TreeServer();
        for (int connection : NO_CONNECTIONS) {
            Check.is("feed to " + connection, server.feed(connection, 0x6300000007L, 7), false);
        }
        Check.is("waiting at 0", server.waiting(0), 0);
        Check.is("waiting at 1", server.waiting(1), 0);
    }

    private static void feedOfWrongCounts() {
        Check.sentence("n is not 1 .. 8");
        TreeServer server = new TreeServer();
        for (int n : new int[] {Integer.MIN_VALUE, -8, -1, 0, 9, 10, 64, 256, 264, Integer.MAX_VALUE}) {
            Check.is("feed of " + n, server.feed(0, 0x6300000007L, n), false);
            Check.is("status", server.status(0), 0);
        }
        server.feed(0, 0x6300000007L, 7);
        Check.is("nothing stands ahead of it", server.waiting(0), 13);
    }

    private static void feedOfEveryCount() {
        Check.sentence("Puts the lowest n bytes of a number, the lowest first, behind the input of a connection: true");
        byte[] message = Bytes.message(108, 0xFEDC, new byte[] {1, 2});
        byte[] four = new Bytes().raw(message).raw(message).raw(message).raw(message).all();
        for (int n = 1; n <= 8; n++) {
            Client client = Client.of("ann");
            for (int at = 0; at < four.length; at += n) {
                int count = Math.min(n, four.length - at);
                Check.is("feed", client.server.feed(0, Bytes.numberIn(four, at, count), count), true);
            }
            Check.is("four answers by " + n, client.server.waiting(0), 28);
            Check.is("the first one", client.server.take(0), 0x07FEDC6D00000007L);
        }
    }

    private static void feedOfTheLowestBytes() {
        Check.sentence("Puts the lowest n bytes of a number, the lowest first");
        TreeServer server = new TreeServer();
        Check.is("a byte with more above it", server.feed(1, 0xFFFFFFFFFFFFFF07L, 1), true);
        Check.is("three", server.feed(1, 0x7700000000000000L, 3), true);
        Check.is("not broken", server.status(1), 0);
        Check.is("three", server.feed(1, 0xFFFFFFFFFF000163L, 3), true);
        Check.is("the answer", server.take(1), 0x0400016B0000000DL);
        Check.is("a number with the highest bit", server.feed(1, 0x8000006300000007L, 7), true);
        Check.is("its tag is 0", server.waiting(1), 5 + 13);
    }

    /** A connection whose output of 132 bytes keeps all input waiting. */
    private static Client full() {
        Client client = Client.of("ann");
        for (int i = 0; i < 17; i++) {
            client.feed(Bytes.message(108, i, new byte[2]));
        }
        client.feed(Bytes.message(99, 17, new byte[0]));
        Check.is("prepared", client.server.waiting(0), 132);
        return client;
    }

    private static void inputOf160() {
        Check.sentence("the input would have more than 160");
        Client client = full();
        for (int i = 0; i < 20; i++) {
            Check.is("feed", client.server.feed(0, 0x6300000008L, 8), true);
        }
        for (int n = 1; n <= 8; n++) {
            Check.is("161 and more", client.server.feed(0, 8, n), false);
        }
        Check.is("nothing was handled", client.server.waiting(0), 132);
        client.server.take(0);
        Check.is("eight less", client.server.waiting(0), 124 + 13);
        Check.is("eight more", client.server.feed(0, 0x6300000008L, 8), true);
        Check.is("and no more", client.server.feed(0, 8, 1), false);
    }

    private static void inputThatWouldHaveMore() {
        Check.sentence("the input would have more than 160");
        for (int n = 2; n <= 8; n++) {
            Client client = full();
            for (int i = 0; i < 19; i++) {
                client.server.feed(0, 0x6300000008L, 8);
            }
            Check.is("up to " + (161 - n), client.server.feed(0, 8, 9 - n), true);
            Check.is("161", client.server.feed(0, 0, n), false);
            Check.is("160", client.server.feed(0, 0, n - 1), true);
            Check.is("161", client.server.feed(0, 0, 1), false);
        }
    }

    private static void feedToABrokenOne() {
        Check.sentence("the connection is broken, or the server is down");
        TreeServer server = new TreeServer();
        server.feed(1, 3, 4);
        Check.is("feed", server.feed(1, 0x6300000007L, 7), false);
        Check.is("the other", server.feed(0, 0x6300000007L, 7), true);
    }

    private static void feedToAServerThatIsDown() {
        Check.sentence("the connection is broken, or the server is down");
        TreeServer server = down();
        Check.is("feed", server.feed(0, 0x6300000007L, 7), false);
        Check.is("feed", server.feed(1, 0x6300000007L, 7), false);
        server.restart();
        Check.is("waiting", server.waiting(0), 0);
        Check.is("feed", server.feed(0, 0x6300000007L, 7), true);
        Check.is("waiting", server.waiting(0), 13);
    }

    private static TreeServer down() {
        TreeServer server = new TreeServer();
        server.cut(0);
        Client.of(server, 0, "ann").create(0, "f", 0, 0);
        Check.is("down", server.up(), false);
        return server;
    }

    private static void waitingAtNone() {
        Check.sentence("How many bytes of output wait at a connection; -1 if there is none.");
        TreeServer server = new TreeServer();
        for (int connection : NO_CONNECTIONS) {
            Check.is("waiting at " + connection, server.waiting(connection), -1);
        }
        Check.is("none wait", server.waiting(0), 0);
        Check.is("none wait when down", down().waiting(0), 0);
    }

    private static void takeOfEveryCount() {
        Check.sentence("Takes the first eight bytes of the output of a connection, or as many as there are");
        // Nine answers of 7 bytes: what is left over of the last eight is one byte less each time.
        Client client = Client.of("ann");
        for (int i = 1; i <= 9; i++) {
            Bytes due = new Bytes();
            for (int k = 0; k < i; k++) {
                client.feed(Bytes.message(108, 0xFF00 | k, new byte[2]));
                due.number(7, 4).number(109, 1).number(0xFF00 | k, 2);
            }
            byte[] bytes = due.all();
            for (int at = 0; at < bytes.length; at += 8) {
                int n = Math.min(8, bytes.length - at);
                Check.is("waiting", client.server.waiting(0), bytes.length - at);
                Check.is("take of " + n, client.server.take(0), Bytes.numberIn(bytes, at, n));
            }
            Check.is("waiting", client.server.waiting(0), 0);
        }
    }

    private static void takeOfNone() {
        Check.sentence("0 if there is none");
        TreeServer server = new TreeServer();
        for (int connection : NO_CONNECTIONS) {
            Check.is("take at " + connection, server.take(connection), 0L);
        }
        Check.is("no output", server.take(0), 0L);
        Check.is("down", down().take(0), 0L);
        server.feed(0, 0, 4);
        Check.is("broken", server.take(0), 0L);
    }

    private static void takeHandles() {
        Check.sentence("(What waits in the input may be handled then.)");
        Client client = full();
        client.feed(Bytes.message(114, 7, Client.createBody(0, "f", 0x1FF, 0)));
        Check.is("it waits", client.server.nodes(), 0);
        client.server.take(1);
        Check.is("a take at the other does not count", client.server.nodes(), 0);
        client.server.take(0);
        Check.is("handled", client.server.nodes(), 1);
        Check.is("its answer is the last", client.server.waiting(0), 124 + 24);
    }

    /** What is handled by a take is behind what it takes, also if it takes less than eight bytes. */
    private static void takeOfMoreThanWasThere() {
        Check.sentence("Takes the first eight bytes of the output of a connection, or as many as there are");
        Client client = full();
        client.feed(Bytes.message(108, 0x5555, new byte[2]));
        Bytes all = new Bytes();
        for (int i = 0; i < 17; i++) {
            all.number(client.server.take(0), 8);
        }
        Check.is("three of the last answer are left", client.server.waiting(0), 3);
        all.number(client.server.take(0), 3);
        Check.is("the last answer", Bytes.numberIn(all.all(), 132, 7), 0x55556D00000007L);
    }

    private static void hangupOfNone() {
        Check.sentence("true; false (refused) if there is none, or the server is down");
        TreeServer server = new TreeServer();
        for (int connection : NO_CONNECTIONS) {
            Check.is("hangup of " + connection, server.hangup(connection), false);
        }
        Check.is("hangup of 0", server.hangup(0), true);
        Check.is("hangup of 1", server.hangup(1), true);
    }

    private static void hangupWhenDown() {
        Check.sentence("true; false (refused) if there is none, or the server is down");
        TreeServer server = down();
        Check.is("hangup of 0", server.hangup(0), false);
        Check.is("hangup of 1", server.hangup(1), false);
        server.restart();
        Check.is("hangup of 0", server.hangup(0), true);
    }

    private static void hangupClears() {
        Check.sentence("its fids are released by rising number, input and output are empty, no version is agreed on, "
            + "MSIZE is 128, it is not broken");
        Client client = Client.of("ann");
        client.version(96, "9P2000");
        client.attach(0, "ann");
        client.feed(Bytes.message(108, 1, new byte[2]));
        client.server.feed(0, 7, 4);
        Check.is("hangup", client.server.hangup(0), true);
        Check.is("fids", client.server.fids(0), 0);
        Check.is("output", client.server.waiting(0), 0);
        Check.is("status", client.server.status(0), 0);
        Check.is("input is empty, MSIZE is 128", client.send(99, new byte[121]), "error type");
        Check.is("no version", client.flush(1), "error version");
        Check.is("read of MSIZE - 11", client.version(128, "9P2000"), "128 9P2000");
    }

    private static void hangupOfABrokenOne() {
        Check.sentence("it is not broken: true");
        TreeServer server = new TreeServer();
        server.feed(0, 0, 8);
        server.feed(1, 0, 8);
        Check.is("hangup", server.hangup(0), true);
        Check.is("not broken", server.status(0), 0);
        Check.is("the other is", server.status(1), 2);
    }

    private static void statusOfNone() {
        Check.sentence("-1 if there is no such connection");
        TreeServer server = new TreeServer();
        for (int connection : NO_CONNECTIONS) {
            Check.is("status of " + connection, server.status(connection), -1);
        }
    }

    private static void statusOfAll() {
        Check.sentence("0 no version agreed on, 1 agreed on, 2 broken");
        Client client = new Client(new TreeServer(), 1);
        Check.is("at first", client.server.status(1), 0);
        client.version(128, "9P");
        Check.is("unknown", client.server.status(1), 0);
        client.version(128, "9P2000");
        Check.is("agreed on", client.server.status(1), 1);
        Check.is("of the other", client.server.status(0), 0);
        client.version(95, "9P");
        Check.is("still agreed on", client.server.status(1), 1);
        client.server.feed(1, 0, 4);
        Check.is("broken, whether agreed on or not", client.server.status(1), 2);
        Check.is("when down", down().status(0), 0);
    }

    private static void fidsOfNone() {
        Check.sentence("The number of fids of a connection; -1 if there is none.");
        TreeServer server = new TreeServer();
        for (int connection : NO_CONNECTIONS) {
            Check.is("fids of " + connection, server.fids(connection), -1);
        }
        Check.is("no fids", server.fids(0), 0);
        Check.is("no fids when down", down().fids(0), 0);
    }

    private static void fidsThatAreGoneCount() {
        Check.sentence("The number of fids of a connection");
        Client ann = Client.of("ann");
        ann.createAt(1, "f", 0x1FF, 0);
        for (int fid = 2; fid < 6; fid++) {
            ann.walk(0, fid, "f");
        }
        ann.remove(1);
        Check.is("four of them are gone", ann.server.fids(0), 5);
        ann.attach(1, "ann");
        Check.is("six", ann.attach(6, "ann"), "error fids");
        ann.clunk(2);
        Check.is("one less", ann.server.fids(0), 5);
    }

    private static void refusedCallsChangeNothing() {
        Check.sentence("A call that is refused changes nothing.");
        Client ann = Client.of("ann");
        ann.createAt(1, "f", 0x1FF, 0x40);
        ann.feed(Bytes.message(108, 1, new byte[2]));
        TreeServer server = ann.server;
        server.feed(0, 0, 9);
        server.feed(0, 0, 0);
        server.feed(2, 0, 8);
        server.hangup(-1);
        server.hangup(2);
        server.restart();
        server.cut(-1);
        Check.is("fids", server.fids(0), 2);
        Check.is("status", server.status(0), 1);
        Check.is("waiting", server.waiting(0), 7);
        Check.is("nodes", server.nodes(), 1);
        Check.is("writes", server.writes(), 4);
        ann.takeAll();
        Check.is("input", ann.clunk(1), "ok");
    }
}
