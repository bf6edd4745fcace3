/** The edges that stand under CONNECTIONS: when messages are handled, when a connection breaks, how fids go. */
public final class ConnectionEdgesTest {
    private static final long[] FIDS = {6, 0xFFFFFFFFL, 0x80000000L, 1, 0x7FFFFFFF};

    public static void main(String[] args) {
        firstMsize();
        sixFids();
        sixFidsWalked();
        gone();
        goneAndUsedAgain();
        outputOf128();
        outputOf129();
        outputOf256();
        lookedAtAheadOfEach();
        wholeMessage();
        threeBytes();
        sizesOfLessThanSeven();
        sizesGreaterThanMsize();
        everyHigherBitOfASize();
        lookedAtBehindFeed();
        lookedAtBehindEachMessage();
        msizeOfThen();
        msizeOfThenRaised();
        whileMoreOutputWaits();
        releasedByRisingNumber();
        lastReleasedIsTheHighest();
        emptied();
        takesNothing();
        Check.end();
    }

    /** Output of so many bytes, out of answers of 7 and of 13. */
    private static Client withOutput(int bytes) {
        Client client = Client.of("ann");
        int longer = 0;
        while ((bytes - 13 * longer) % 7 != 0) {
            longer++;
        }
        for (int i = 0; i < longer; i++) {
            client.feed(Bytes.message(99, i, new byte[0]));
        }
        for (int i = 0; i < (bytes - 13 * longer) / 7; i++) {
            flush(client);
        }
        Check.is("prepared", client.server.waiting(0), bytes);
        return client;
    }

    private static void flush(Client client) {
        client.feed(Bytes.message(108, 9, new byte[2]));
    }

    private static void firstMsize() {
        Check.sentence("MSIZE (128 at first)");
        Client client = new Client(new TreeServer(), 0);
        Check.is("128", client.send(99, new byte[121]), "error type");
        client.server.feed(0, 129, 4);
        Check.is("129", client.server.status(0), 2);
    }

    private static void sixFids() {
        Check.sentence("at most six FIDS");
        TreeServer server = new TreeServer();
        for (int connection = 0; connection < 2; connection++) {
            Client client = Client.of(server, connection, "ann");
            for (int i = 1; i < 6; i++) {
                Check.is("attach", client.attach(i, "ann"), "80.0.0");
            }
            Check.is("six", server.fids(connection), 6);
            Check.is("a seventh", client.attach(6, "ann"), "error fids");
            Check.is("six", server.fids(connection), 6);
        }
    }

    private static void sixFidsWalked() {
        Check.sentence("at most six FIDS");
        Client client = Client.of("ann");
        for (int i = 1; i < 6; i++) {
            Check.is("walk", client.walk(0, i), "walked");
        }
        Check.is("a seventh", client.walk(0, 6), "error fids");
        client.clunk(3);
        Check.is("a sixth again", client.walk(0, 6), "walked");
        Check.is("six", client.server.fids(0), 6);
    }

    private static void gone() {
        Check.sentence("A fid is GONE when its node was removed.");
        TreeServer server = new TreeServer();
        Client ann = Client.of(server, 0, "ann");
        Client bob = Client.of(server, 1, "bob");
        ann.createAt(1, "f", 0x1FF, 0);
        ann.walk(0, 2, "f");
        bob.walk(0, 3, "f");
        ann.remove(1);
        Check.is("of the same connection", ann.stat(2), "error gone");
        Check.is("of the other", bob.stat(3), "error gone");
        Check.is("it is still a fid", server.fids(0), 2);
        Check.is("of the other, too", server.fids(1), 2);
        Check.is("the directory's fid is not gone", bob.stat(0), "/ 80.2.0 800001fd 0 0 ann ann ann");
    }

    private static void goneAndUsedAgain() {
        Check.sentence("A fid is GONE when its node was removed.");
        Client ann = Client.of("ann");
        ann.createAt(1, "f", 0x1FF, 0x42);
        ann.walk(0, 2, "f");
        ann.remove(2);
        ann.createAt(2, "f", 0x1FF, 2);
        Check.is("it stays gone when there is a new one of that name", ann.stat(1), "error gone");
        Check.is("so it does to read", ann.read(1, 0, 1), "error gone");
        Check.is("released", ann.clunk(1), "ok");
        Check.is("the new one stays", ann.stat(2), "f 0.0.2 1fd 0 0 ann ann ann");
    }

    private static void outputOf128() {
        Check.sentence("As long as at most 128 bytes of output wait");
        Client client = withOutput(128);
        flush(client);
        Check.is("at 128 it is handled", client.server.waiting(0), 135);
    }

    private static void outputOf129() {
        Check.sentence("As long as at most 128 bytes of output wait");
        Client client = withOutput(129);
        flush(client);
        Check.is("at 129 it is not", client.server.waiting(0), 129);
        Check.is("the first eight bytes", client.server.take(0) & 0xFF, 13L);
        Check.is("at 121 it is", client.server.waiting(0), 128);
    }

    /** Behind 128 bytes comes the longest answer, a reading of 117 bytes: stats of 56 and 61. */
    private static void outputOf256() {
        Check.sentence("its answer is put behind the output");
        Client cy = Client.of("ann");
        cy.alter(0, new Alteration().mode(Client.DIR | 0x1FF));
        cy.attach(1, "cy");
        for (String name : new String[] {"a", "123456"}) {
            cy.walk(1, 2);
            cy.create(2, name, 0x1FF, 0);
            cy.alter(2, new Alteration().group("cy"));
            cy.clunk(2);
        }
        cy.open(1, 0);
        for (int i = 0; i < 9; i++) {
            flush(cy);
        }
        for (int i = 0; i < 5; i++) {
            cy.feed(Bytes.message(99, i, new byte[0]));
        }
        Check.is("128 wait", cy.server.waiting(0), 128);
        cy.feed(Bytes.message(116, 0x0102, new Bytes().number(1, 4).number(0, 8).number(117, 4).all()));
        Check.is("256 wait", cy.server.waiting(0), 256);
        byte[] all = cy.takeAll();
        Check.is("all are taken", all.length, 256);
        Check.is("the head of the last", Bytes.numberIn(all, 128, 8), 0x75_0102_75_00000080L);
        Check.is("its end", Bytes.textIn(all, 252, 4), "\u0002\u0000cy");
    }

    private static void lookedAtAheadOfEach() {
        Check.sentence("(looked at ahead of each message)");
        Client client = withOutput(130);
        for (int i = 0; i < 5; i++) {
            flush(client);
        }
        Check.is("none is handled", client.server.waiting(0), 130);
        client.server.take(0);
        Check.is("one at 122, none at 129", client.server.waiting(0), 129);
        client.server.take(0);
        Check.is("two at 121 and 128, none at 135", client.server.waiting(0), 135);
        client.server.take(0);
        Check.is("one at 127, none at 134", client.server.waiting(0), 134);
        client.server.take(0);
        Check.is("the last at 126", client.server.waiting(0), 133);
        client.server.take(0);
        Check.is("no more", client.server.waiting(0), 125);
    }

    private static void wholeMessage() {
        Check.sentence("and the input begins with a whole message, that is taken out and handled, its answer is "
            + "put behind the output");
        Client client = Client.of("ann");
        byte[] message = Bytes.message(108, 1, new byte[2]);
        for (int i = 0; i + 1 < message.length; i++) {
            client.server.feed(0, message[i], 1);
            Check.is("not whole at " + (i + 1), client.server.waiting(0), 0);
        }
        client.server.feed(0, 0, 1);
        Check.is("whole", client.server.waiting(0), 7);
        client.server.feed(0, 0x6C00000009L, 7);
        client.server.feed(0, 0x0000090000L, 3);
        Check.is("whole, and a byte of the next", client.server.waiting(0), 14);
        client.server.feed(0, 0, 3);
        client.server.feed(0, 108, 3);
        client.server.feed(0, 0, 2);
        Check.is("the next", client.server.waiting(0), 21);
    }

    private static void threeBytes() {
        Check.sentence("If an input of four bytes or more begins with a size");
        for (int n = 1; n <= 4; n++) {
            Client client = Client.of("ann");
            client.server.feed(0, 0, n);
            Check.is("zeros: " + n, client.server.status(0), n < 4 ? 1 : 2);
        }
        Client client = Client.of("ann");
        client.server.feed(0, 0xFFFFFF, 3);
        Check.is("three of 255", client.server.status(0), 1);
        client.server.feed(0, 0, 1);
        Check.is("and a fourth", client.server.status(0), 2);
    }

    private static void sizesOfLessThanSeven() {
        Check.sentence("a size less than 7 or greater than MSIZE");
        for (int size = 0; size <= 8; size++) {
            Client client = Client.of("ann");
            client.server.feed(0, size, 4);
            Check.is("size " + size, client.server.status(0), size < 7 ? 2 : 1);
            Check.is("fids", client.server.fids(0), size < 7 ? 0 : 1);
        }
    }

    private static void sizesGreaterThanMsize() {
        Check.sentence("a size less than 7 or greater than MSIZE");
        for (int msize : new int[] {96, 97, 127, 128}) {
            for (int size = msize - 1; size <= msize + 1; size++) {
                Client client = Client.of("ann");
                client.version(msize, "9P2000");
                client.server.feed(0, size, 4);
                Check.is(size + " of " + msize, client.server.status(0), size > msize ? 2 : 1);
            }
            Client client = Client.of("ann");
            client.version(msize, "9P2000");
            Check.is("a message of MSIZE", client.send(99, new byte[msize - 7]), "error type");
        }
    }

    private static void everyHigherBitOfASize() {
        Check.sentence("a size less than 7 or greater than MSIZE");
        for (int bit = 7; bit < 32; bit++) {
            Client client = Client.of("ann");
            client.server.feed(0, 9 | 1L << bit, 4);
            Check.is("9 and 2^" + bit, client.server.status(0), 2);
            client = Client.of("ann");
            client.server.feed(0, 1L << bit, 4);
            Check.is("2^" + bit, client.server.status(0), bit == 7 ? 1 : 2);
        }
    }

    private static void lookedAtBehindFeed() {
        Check.sentence("(looked at behind feed(), take() and each message, by the MSIZE of then)");
        Client client = Client.of("ann");
        Check.is("feed itself is not refused", client.server.feed(0, 6, 8), true);
        Check.is("broken", client.server.status(0), 2);
        client = Client.of("ann");
        Check.is("a whole message and a bad byte", client.server.feed(0, 0x6300000007L, 8), true);
        Check.is("not looked at yet", client.server.status(0), 1);
        Check.is("three more", client.server.feed(0, 0, 3), true);
        Check.is("now it is", client.server.status(0), 2);
    }

    private static void lookedAtBehindEachMessage() {
        Check.sentence("(looked at behind feed(), take() and each message, by the MSIZE of then)");
        Client client = withOutput(135);
        flush(client);
        client.server.feed(0, 6, 4);
        Check.is("a bad size behind a message is not at the beginning", client.server.status(0), 1);
        Check.is("nor is the message handled", client.server.waiting(0), 135);
        Check.is("the bytes", client.server.take(0) != 0, true);
        Check.is("behind the message it is at the beginning", client.server.status(0), 2);
        Check.is("its answer is not there", client.server.waiting(0), 0);
    }

    private static void msizeOfThen() {
        Check.sentence("by the MSIZE of then");
        for (int size = 99; size <= 101; size++) {
            Client client = withOutput(135);
            client.feed(Bytes.message(100, 1, new Bytes().number(100, 4).text("9P2000").all()));
            client.server.feed(0, size, 4);
            Check.is("by 128, and behind another", client.server.status(0), 1);
            client.server.take(0);
            Check.is(size + " by 100", client.server.status(0), size > 100 ? 2 : 1);
        }
    }

    private static void msizeOfThenRaised() {
        Check.sentence("by the MSIZE of then");
        Client client = Client.of("ann");
        client.version(96, "9P2000");
        for (int i = 0; i < 19; i++) {
            flush(client);
        }
        client.feed(Bytes.message(100, 1, new Bytes().number(120, 4).text("9P2000").all()));
        Check.is("120 would be too much for 96", client.server.feed(0, 120, 4), true);
        Check.is("but stands behind another", client.server.status(0), 1);
        client.server.take(0);
        Check.is("and is not too much then", client.server.status(0), 1);
        Check.is("there were 133 and 19 more", client.server.waiting(0), 125 + 19);
    }

    private static void whileMoreOutputWaits() {
        Check.sentence("the connection is BROKEN at once (also while more output waits)");
        for (int output : new int[] {7, 128, 129, 135}) {
            Client client = withOutput(output);
            client.server.feed(0, 129, 4);
            Check.is("broken with " + output, client.server.status(0), 2);
            Check.is("waiting", client.server.waiting(0), 0);
        }
    }

    /** Files that are to be removed by these fids, of which the one with the highest number is bob's. */
    private static Client toRemove(int from) {
        Client client = Client.of("ann");
        for (long fid : FIDS) {
            client.makeFile("n" + fid % 10, 0x1FF, "");
        }
        for (int i = 0; i < FIDS.length; i++) {
            long fid = FIDS[(i + from) % FIDS.length];
            client.attach(fid, fid == 0xFFFFFFFFL ? "bob" : "ann");
            client.walk(fid, fid, "n" + fid % 10);
            client.open(fid, 0x40);
        }
        return client;
    }

    private static void release(Client client, int way) {
        if (way == 0) {
            client.server.hangup(0);
        } else if (way == 1) {
            client.server.feed(0, 0, 4);
        } else {
            client.feed(Bytes.message(100, 1, new Bytes().number(100, 4).text("9P2000").all()));
        }
    }

    /** A cut leaves the first one to be removed at the restart, and the others where they are. */
    private static void releasedByRisingNumber() {
        Check.sentence("its fids are released by rising number (without sign)");
        for (int from = 0; from < FIDS.length; from++) {
            for (int way = 0; way < 3; way++) {
                Client client = toRemove(from);
                Check.is("nodes", client.server.nodes(), 5);
                client.server.cut(2);
                release(client, way);
                Check.is("down", client.server.up(), false);
                client.server.restart();
                Check.is("one was removed", client.server.nodes(), 4);
                client = Client.of(client.server, 0, "ann");
                Check.is("the lowest", client.walk(0, 1, "n1"), "error noent");
            }
        }
    }

    private static void lastReleasedIsTheHighest() {
        Check.sentence("its fids are released by rising number (without sign)");
        for (int from = 0; from < FIDS.length; from++) {
            for (int way = 0; way < 3; way++) {
                Client client = toRemove(from);
                int writes = client.server.writes();
                release(client, way);
                Check.is("all were removed", client.server.nodes(), 0);
                Check.is("by a change each", client.server.writes(), writes + 15);
                client = Client.of(client.server, 1, "cy");
                Check.is("the last one by bob", client.stat(0), "/ 80.10.0 800001fd 0 0 ann ann bob");
            }
        }
    }

    private static void emptied() {
        Check.sentence("input and output are empty, and it takes nothing until it is hung up");
        Client client = withOutput(20);
        client.server.feed(0, 0x6300000000L, 8);
        Check.is("no output", client.server.waiting(0), 0);
        Check.is("none to take", client.server.take(0), 0L);
        client.server.hangup(0);
        Check.is("no input that is left", client.version(128, "9P2000"), "128 9P2000");
    }

    private static void takesNothing() {
        Check.sentence("it takes nothing until it is hung up");
        Client client = Client.of("ann");
        client.server.feed(0, 0, 4);
        for (int n = 1; n <= 8; n++) {
            Check.is("feed of " + n, client.server.feed(0, 0x6300000007L, n), false);
        }
        client.server.take(0);
        client.server.hangup(1);
        Check.is("still broken", client.server.status(0), 2);
        Check.is("waiting", client.server.waiting(0), 0);
        Check.is("hangup", client.server.hangup(0), true);
        Check.is("not broken", client.server.status(0), 0);
        Check.is("feed", client.server.feed(0, 0x6300000007L, 7), true);
        Check.is("handled", client.server.waiting(0), 13);
    }
}
