import java.util.Arrays;

/** Promise 2: errors of any message, and the types 100, 102, 104, 108. */
public final class SessionTest {
    public static void main(String[] args) {
        types();
        forms();
        versionFirst();
        fidAndGone();
        agreeing();
        agreeingReleases();
        authAndFlush();
        attaching();
        Check.end();
    }

    private static void types() {
        for (int type = 0; type < 256; type++) {
            Client client = new Client(new TreeServer(), 0);
            boolean known = type == 100 || type == 102 || type == 104 || type == 108
                || type >= 110 && type <= 126 && type % 2 == 0;
            // A message without a body is no well-formed one of any type.
            Check.is("type " + type, client.send(type, new byte[0]), known ? "error form" : "error type");
        }
    }

    private static void forms() {
        form(100, new Bytes().number(128, 4).text("9P2000").all());
        form(102, new Bytes().number(1, 4).text("ann").text("x").all());
        form(104, new Bytes().number(1, 4).number(Bytes.NONE4, 4).text("ann").text("x").all());
        form(108, new byte[2]);
        form(110, new Bytes().number(9, 4).number(9, 4).number(0, 2).all());
        form(110, new Bytes().number(9, 4).number(9, 4).number(4, 2).text("a").text("").text("b").text("c").all());
        form(112, new byte[5]);
        form(114, new Bytes().number(9, 4).text("name").number(0, 4).number(0, 1).all());
        form(116, new byte[16]);
        form(118, new Bytes().number(9, 4).number(0, 8).number(3, 4).raw("abc").all());
        form(120, new byte[4]);
        form(122, new byte[4]);
        form(124, new byte[4]);
        byte[] stat = new Alteration().name("abc").group("g").bytes();
        form(126, new Bytes().number(9, 4).number(stat.length, 2).raw(stat).all());
        fiveNames();
        wrongCounts(stat);
    }

    /** Every shorter body and some longer ones are "form", the whole one is not. */
    private static void form(int type, byte[] body) {
        for (int length = 0; length <= body.length + 2; length++) {
            // Without a version: what is well-formed is told apart by the error that comes next.
            Client client = new Client(new TreeServer(), 1);
            String due = length != body.length ? "error form" : type == 100 ? "128 9P2000" : "error version";
            Check.is("type " + type + " with " + length, client.send(type, Arrays.copyOf(body, length)), due);
        }
    }

    private static void fiveNames() {
        Client client = Client.of("ann");
        Check.is("four names", client.walk(0, 1, "..", "..", "..", ".."), "walked 80.0.0 80.0.0 80.0.0 80.0.0");
        Check.is("five names", client.walk(0, 2, "..", "..", "..", "..", ".."), "error form");
        Check.is("a count of 256 and more", client.send(110, new Bytes().number(0, 4).number(1, 4)
            .number(0x100, 2).all()), "error form");
    }

    private static void wrongCounts(byte[] stat) {
        Client client = Client.of("ann");
        Check.is("count of 2^31", client.send(118, new Bytes().number(0, 4).number(0, 8).number(0x80000001L, 4)
            .raw("a").all()), "error form");
        Check.is("text of 65535", client.send(114, new Bytes().number(0, 4).number(0xFFFF, 2)
            .number(0, 5).all()), "error form");
        Check.is("m too small", client.send(126, new Bytes().number(0, 4).number(stat.length - 1, 2)
            .raw(stat).all()), "error form");
        Check.is("m too great", client.send(126, new Bytes().number(0, 4).number(stat.length + 1, 2)
            .raw(stat).all()), "error form");
        byte[] longer = stat.clone();
        longer[0]++;
        Check.is("n too great", client.send(126, new Bytes().number(0, 4).number(stat.length, 2)
            .raw(longer).all()), "error form");
        byte[] moved = stat.clone();
        moved[41]--;
        Check.is("texts that do not fill it", client.send(126, new Bytes().number(0, 4).number(stat.length, 2)
            .raw(moved).all()), "error form");
        Check.is("no stat at all", client.send(126, new Bytes().number(0, 4).number(0, 2).all()), "error form");
        Check.is("form is ahead of fid", client.send(126, new Bytes().number(5, 4).number(2, 2)
            .number(0, 2).all()), "error form");
    }

    private static void versionFirst() {
        Client client = new Client(new TreeServer(), 0);
        Check.is("102", client.auth(1, "", ""), "error version");
        Check.is("104", client.attach(1, "ann"), "error version");
        Check.is("108", client.flush(1), "error version");
        Check.is("110", client.walk(1, 1), "error version");
        Check.is("112", client.open(1, 0), "error version");
        Check.is("120", client.clunk(1), "error version");
        Check.is("type is ahead", client.send(106, new byte[0]), "error type");
        Check.is("100 that is refused", client.version(95, "9P2000"), "error msize");
        Check.is("status", client.server.status(0), 0);
        Check.is("100", client.version(96, "9P2000"), "96 9P2000");
        Check.is("108", client.flush(1), "ok");
    }

    private static void fidAndGone() {
        TreeServer server = new TreeServer();
        Client ann = Client.of(server, 0, "ann");
        noFid(ann, "error fid");
        Check.is("120", ann.clunk(3), "error fid");
        Check.is("122", ann.remove(3), "error fid");
        Check.is("a fid of the other connection", new Client(server, 1).version(128, "9P2000"), "128 9P2000");
        Check.is("a fid of the other connection", new Client(server, 1).stat(0), "error fid");

        ann.createAt(3, "f", 0x1FF, 2);
        Client bob = Client.of(server, 1, "bob");
        bob.walk(0, 1, "f");
        Check.is("removed by bob", bob.remove(1), "ok");
        noFid(ann, "error gone");
        Check.is("it still has the number", ann.attach(3, "ann"), "error inuse");
        Check.is("fids", server.fids(0), 2);
        ann.walk(0, 4);
        Check.is("122 of one that is gone", ann.remove(3), "error gone");
        Check.is("is one less", server.fids(0), 2);
        ann.create(4, "g", 0x1FF, 0);
        Check.is("a new node at its place", ann.stat(4), "g 0.0.2 1fd 0 0 ann ann ann");
    }

    private static void noFid(Client client, String due) {
        Check.is("110", client.walk(3, 9), due);
        Check.is("112", client.open(3, 0xFF), due);
        Check.is("114", client.create(3, "", 0, 0), due);
        Check.is("116", client.read(3, 0, 0), due);
        Check.is("118", client.write(3, 0, ""), due);
        Check.is("124", client.stat(3), due);
        Check.is("126", client.alter(3, new Alteration().type(0)), due);
    }

    private static void agreeing() {
        Client client = new Client(new TreeServer(), 0);
        Check.is("95", client.version(95, "9P2000"), "error msize");
        Check.is("0", client.version(0, "9P2000"), "error msize");
        Check.is("96", client.version(96, "9P2000"), "96 9P2000");
        Check.is("127", client.version(127, "9P2000.L and more"), "127 9P2000");
        Check.is("128", client.version(128, "9P2000"), "128 9P2000");
        Check.is("129", client.version(129, "9P20001"), "128 9P2000");
        Check.is("2^31", client.version(0x80000000L, "9P2000"), "128 9P2000");
        Check.is("2^32 - 1", client.version(0xFFFFFFFFL, "9P2000"), "128 9P2000");
        Check.is("status", client.server.status(0), 1);
        for (String unknown : new String[] {"", "9P200", "9p2000", " 9P2000", "unknown"}) {
            client.version(128, "9P2000");
            Check.is("version " + unknown, client.version(100, unknown), "100 unknown");
            Check.is("status", client.server.status(0), 0);
        }
        client.version(128, "9P2000");
        client.attach(0, "ann");
        Check.is("refused", client.version(95, "x"), "error msize");
        Check.is("status after it", client.server.status(0), 1);
        Check.is("fids after it", client.server.fids(0), 1);
    }

    private static void agreeingReleases() {
        TreeServer server = new TreeServer();
        Client ann = Client.of(server, 0, "ann");
        ann.createAt(1, "f", 0x1FF, 0x42);
        ann.createAt(2, "g", 0x1FF, 0x42);
        int writes = server.writes();
        Check.is("100", ann.version(128, "9P2000"), "128 9P2000");
        Check.is("fids", server.fids(0), 0);
        Check.is("nodes", server.nodes(), 0);
        Check.is("writes", server.writes(), writes + 6);

        ann.attach(0, "ann");
        ann.createAt(1, "f", 0x1FF, 0x42);
        ann.createAt(2, "g", 0x1FF, 0x42);
        server.cut(2);
        Check.is("100 that is cut off", ann.version(100, "9P2000"), "none");
        Check.is("status", server.status(0), 0);
        server.restart();
        Check.is("one was removed", server.nodes(), 1);
        Check.is("the input is not limited to 100", server.feed(0, 128, 4) && server.status(0) == 0, true);
    }

    private static void authAndFlush() {
        Client client = Client.of("ann");
        Check.is("102", client.auth(0, "ann", ""), "error auth");
        Check.is("102", client.auth(Bytes.NONE4, "nobody", "tree"), "error auth");
        Check.is("108", client.flush(0xFFFF), "ok");
    }

    private static void attaching() {
        Client client = Client.of("ann");
        Check.is("in use", client.attach(0, 0, "nobody", ""), "error inuse");
        Check.is("afid", client.attach(1, 0, "nobody", ""), "error auth");
        Check.is("afid", client.attach(1, 0x7FFFFFFF, "ann", ""), "error auth");
        for (String user : new String[] {"", "an", "annn", "Ann", "dan", "cyy", "c"}) {
            Check.is("user " + user, client.attach(1, user), "error user");
        }
        Check.is("fids", client.server.fids(0), 1);
        Check.is("bob", client.attach(0xFFFFFFFFL, Bytes.NONE4, "bob", "any tree"), "80.0.0");
        Check.is("cy", client.attach(0x80000000L, "cy"), "80.0.0");
        client.attach(3, "ann");
        client.attach(4, "ann");
        client.attach(5, "ann");
        Check.is("in use is ahead of six", client.attach(5, "ann"), "error inuse");
        Check.is("six are ahead of afid", client.attach(6, 1, "ann", ""), "error fids");
        Check.is("the fid has its user", client.create(0x80000000L, "f", 0, 0), "error perm");
        Check.is("the fid has its user", client.create(0xFFFFFFFFL, "f", 0x1FF, 0), "0.0.1");
        Check.is("owner", client.stat(0xFFFFFFFFL), "f 0.0.1 1fd 0 0 bob ann bob");
        Check.is("the root's version in the qid", client.clunk(5) + client.attach(5, "cy"), "ok80.1.0");
    }
}
