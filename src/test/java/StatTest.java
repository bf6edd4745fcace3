/** Promise 2: types 124 and 126; promise 8: the clock in MTIME. */
public final class StatTest {
    public static void main(String[] args) {
        stats();
        nothingGiven();
        fixedParts();
        lengths();
        modes();
        mtimes();
        groups();
        names();
        allAtOnce();
        order();
        root();
        Check.end();
    }

    /** ann at fid 1 at her file f, with content hello, at clock 10; the clock is 20 then. */
    private static Client withFile() {
        return withFile(new TreeServer());
    }

    private static Client withFile(TreeServer server) {
        Client ann = Client.of(server, 0, "ann");
        server.clock(10);
        ann.createAt(1, "f", 0x1FF, 2);
        ann.write(1, 0, "hello");
        server.clock(20);
        return ann;
    }

    /** A user at fid 1 of connection 1 at the file f. */
    private static Client at(Client ann, String user) {
        Client client = Client.of(ann.server, 1, user);
        client.walk(0, 1, "f");
        return client;
    }

    private static void stats() {
        Client ann = withFile();
        Check.is("file", ann.stat(1), "f 0.1.1 1fd 10 5 ann ann ann");
        Check.is("directory", ann.stat(0), "/ 80.1.0 800001fd 10 0 ann ann ann");
        ann.alter(1, new Alteration().mode(0));
        Check.is("needs no rights", at(ann, "cy").stat(1), "f 0.1.1 0 10 5 ann ann ann");
        ann.server.clock(Integer.MIN_VALUE);
        ann.write(1, 0, "x");
        Check.is("32 bits of the clock", ann.stat(1), "f 0.2.1 0 2147483648 5 ann ann ann");
    }

    private static void nothingGiven() {
        Client ann = withFile();
        int writes = ann.server.writes();
        Check.is("ann", ann.alter(1, new Alteration()), "ok");
        Check.is("cy", at(ann, "cy").alter(1, new Alteration()), "ok");
        Check.is("root", ann.alter(0, new Alteration()), "ok");
        Check.is("no change", ann.server.writes(), writes);
        Check.is("no change", ann.stat(1), "f 0.1.1 1fd 10 5 ann ann ann");
    }

    private static void fixedParts() {
        Client ann = withFile();
        int writes = ann.server.writes();
        Check.is("type", ann.alter(1, new Alteration().type(0)), "error stat");
        Check.is("type", ann.alter(1, new Alteration().type(0xFF)), "error stat");
        Check.is("type", ann.alter(1, new Alteration().type(0xFF00)), "error stat");
        Check.is("dev", ann.alter(1, new Alteration().dev(0xFFFFFF00L)), "error stat");
        Check.is("dev", ann.alter(1, new Alteration().dev(0)), "error stat");
        Check.is("dev", ann.alter(1, new Alteration().dev(0x7FFFFFFF)), "error stat");
        Check.is("qid's type", ann.alter(1, new Alteration().qid(0, -1, -1)), "error stat");
        Check.is("qid's version", ann.alter(1, new Alteration().qid(-1, 1, -1)), "error stat");
        Check.is("qid's path", ann.alter(1, new Alteration().qid(-1, -1, 1)), "error stat");
        Check.is("qid's path", ann.alter(1, new Alteration().qid(-1, -1, Long.MAX_VALUE)), "error stat");
        Check.is("first mtime", ann.alter(1, new Alteration().firstMtime(10)), "error stat");
        Check.is("owner", ann.alter(1, new Alteration().owner("ann")), "error stat");
        Check.is("changer", ann.alter(1, new Alteration().changer("x")), "error stat");
        Check.is("ahead of all", ann.alter(1, new Alteration().type(0).mode(0x200).name("/")), "error stat");
        Check.is("no change", ann.server.writes(), writes);
    }

    private static void lengths() {
        Client ann = withFile();
        int writes = ann.server.writes();
        Check.is("shorter", ann.alter(1, new Alteration().length(3)), "ok");
        Check.is("64 bytes", ann.server.writes(), writes + 6);
        Check.is("changes", ann.stat(1), "f 0.2.1 1fd 20 3 ann ann ann");
        Check.is("longer", ann.alter(1, new Alteration().length(6)), "ok");
        Check.is("zeros", ann.read(1, 0, 99), "read hel\u0000\u0000\u0000");
        Check.is("0", ann.alter(1, new Alteration().length(0)), "ok");
        Check.is("free", ann.server.free(), 23);
        Check.is("64", ann.alter(1, new Alteration().length(64)), "ok");
        Check.is("free", ann.server.free(), 19);
        Check.is("65", ann.alter(1, new Alteration().length(65)), "error full");
        Check.is("great", ann.alter(1, new Alteration().length(Long.MAX_VALUE)), "error full");
        Check.is("without sign", ann.alter(1, new Alteration().length(-2)), "error full");
        Check.is("without sign", ann.alter(1, new Alteration().length(Long.MIN_VALUE)), "error full");
        Check.is("2^32", ann.alter(1, new Alteration().length(0x100000000L)), "error full");
        Check.is("the same", ann.alter(1, new Alteration().length(64)), "ok");
        Check.is("changes", ann.stat(1), "f 0.6.1 1fd 20 64 ann ann ann");
        Check.is("cy may not w", at(ann, "cy").alter(1, new Alteration().length(65)), "error perm");
        Check.is("bob may", at(ann, "bob").alter(1, new Alteration().length(1)), "ok");
        Check.is("changer", ann.stat(1), "f 0.7.1 1fd 20 1 ann ann bob");
        Check.is("a directory", ann.alter(0, new Alteration().length(0)), "error stat");
        Client cy = at(ann, "cy");
        Check.is("a directory", cy.alter(0, new Alteration().length(0)), "error stat");
    }

    private static void modes() {
        Client ann = withFile();
        int writes = ann.server.writes();
        Check.is("ann", ann.alter(1, new Alteration().mode(0x600001A4L)), "ok");
        Check.is("writes", ann.server.writes(), writes + 6);
        Check.is("leaves version, mtime and changer", ann.stat(1), "f 60.1.1 600001a4 10 5 ann ann ann");
        Check.is("the directory, too", ann.stat(0), "/ 80.1.0 800001fd 10 0 ann ann ann");
        Check.is("bob is not the owner", at(ann, "bob").alter(1, new Alteration().mode(0x200)), "error perm");
        Check.is("other bits", ann.alter(1, new Alteration().mode(0x200)), "error mode");
        Check.is("other bits", ann.alter(1, new Alteration().mode(0x10000000)), "error mode");
        Check.is("other bits", ann.alter(1, new Alteration().mode(0xFFFFFFFEL)), "error mode");
        Check.is("no directory", ann.alter(1, new Alteration().mode(Client.DIR)), "error mode");
        ann.createAt(2, "d", Client.DIR | 0x1FF, 0);
        Check.is("a directory", ann.alter(2, new Alteration().mode(0x1FF)), "error mode");
        Check.is("a directory", ann.alter(2, new Alteration().mode(0xE0000007L)), "ok");
        Check.is("its stat", ann.stat(2), "d e0.0.2 e0000007 20 0 ann ann ann");
        Check.is("mode 0", ann.alter(1, new Alteration().mode(0)), "ok");
        Check.is("its stat", ann.stat(1), "f 0.1.1 0 10 5 ann ann ann");
    }

    private static void mtimes() {
        Client ann = withFile();
        Check.is("ann", ann.alter(1, new Alteration().mtime(0)), "ok");
        Check.is("leaves version and changer", ann.stat(1), "f 0.1.1 1fd 0 5 ann ann ann");
        Check.is("great", ann.alter(1, new Alteration().mtime(0xFFFFFFFEL)), "ok");
        Check.is("great", ann.stat(1), "f 0.1.1 1fd 4294967294 5 ann ann ann");
        Check.is("bob is not the owner", at(ann, "bob").alter(1, new Alteration().mtime(1)), "error perm");
        Check.is("with length", ann.alter(1, new Alteration().mtime(3).length(4)), "ok");
        Check.is("it comes last", ann.stat(1), "f 0.2.1 1fd 3 4 ann ann ann");
        Check.is("then mode", ann.alter(1, new Alteration().mode(0x1F8)), "ok");
        ann.write(1, 0, "x");
        Check.is("length alone", ann.alter(1, new Alteration().length(2)), "ok");
        Check.is("leaves the mtime and mode that were given ahead", ann.stat(1), "f 0.4.1 1f8 20 2 ann ann ann");
    }

    private static void groups() {
        TreeServer server = new TreeServer();
        Client ann = withFile(server);
        Check.is("no such one", ann.alter(1, new Alteration().group("dan")), "error user");
        Check.is("no such one", ann.alter(1, new Alteration().group("anna")), "error user");
        Check.is("not in bob", ann.alter(1, new Alteration().group("bob")), "error perm");
        Check.is("ann", ann.alter(1, new Alteration().group("ann")), "ok");
        Check.is("not the owner", at(ann, "bob").alter(1, new Alteration().group("bob")), "error perm");
        Check.is("user is ahead", at(ann, "cy").alter(1, new Alteration().group("x")), "error user");
        Client bob = Client.of(server, 1, "bob");
        bob.createAt(1, "g", 0x1FF, 0);
        Check.is("bob's", bob.stat(1), "g 0.0.2 1fd 20 0 bob ann bob");
        server.clock(30);
        Check.is("bob is in bob", bob.alter(1, new Alteration().group("bob")), "ok");
        Check.is("leaves version and changer", bob.stat(1), "g 0.0.2 1fd 20 0 bob bob bob");
        Check.is("bob is in ann", bob.alter(1, new Alteration().group("ann")), "ok");
        Check.is("bob is not in cy", bob.alter(1, new Alteration().group("cy")), "error perm");
        Check.is("bob's", bob.stat(1), "g 0.0.2 1fd 20 0 bob ann bob");
    }

    private static void names() {
        TreeServer server = new TreeServer();
        Client ann = withFile(server);
        ann.createAt(2, "other", 0x1FF, 0);
        server.clock(30);
        Check.is("ann", ann.alter(1, new Alteration().name("new")), "ok");
        Check.is("the file is not changed", ann.stat(1), "new 0.1.1 1fd 10 5 ann ann ann");
        Check.is("the directory is", ann.stat(0), "/ 80.3.0 800001fd 30 0 ann ann ann");
        Check.is("old name", ann.walk(0, 3, "f"), "error noent");
        Check.is("new name", ann.walk(0, 3, "new"), "walked 0.1.1");
        Check.is("of one character", ann.alter(2, new Alteration().name("o")), "ok");
        Check.is("of one character", ann.stat(2), "o 0.0.2 1fd 20 0 ann ann ann");
        ann.alter(2, new Alteration().name("other"));
        Client bob = Client.of(server, 1, "bob");
        bob.walk(0, 1, "new");
        Check.is("exists", bob.alter(1, new Alteration().name("other")), "error exist");
        server.clock(40);
        int writes = server.writes();
        Check.is("its own", bob.alter(1, new Alteration().name("new")), "ok");
        Check.is("is a change", server.writes(), writes + 7);
        Check.is("of the directory", ann.stat(0), "/ 80.6.0 800001fd 40 0 ann ann bob");
        for (String wrong : new String[] {".", "..", "a/b", "123456789", " ", "\u00e4", "\u007f"}) {
            Check.is("name " + wrong, bob.alter(1, new Alteration().name(wrong)), "error name");
        }
        Client cy = Client.of(server, 1, "cy");
        cy.walk(0, 1, "new");
        Check.is("name is ahead of perm", cy.alter(1, new Alteration().name("/")), "error name");
        Check.is("perm is ahead of exist", cy.alter(1, new Alteration().name("other")), "error perm");
    }

    private static void allAtOnce() {
        TreeServer server = new TreeServer();
        Client ann = Client.of(server, 0, "ann");
        ann.createAt(1, "d", Client.DIR | 0x1FF, 0);
        ann.clunk(1);
        Client bob = Client.of(server, 1, "bob");
        bob.createAt(1, "f", 0x1FF, 2, "d");
        bob.write(1, 0, "0123456789");
        server.clock(99);
        int writes = server.writes();
        Check.is("all", bob.alter(1, new Alteration().length(20).mode(0x80).mtime(5).group("bob").name("12345678")),
            "ok");
        Check.is("73 bytes", server.writes(), writes + 7);
        Check.is("all", bob.stat(1), "12345678 0.2.2 80 5 20 bob bob bob");
        Check.is("the directory", bob.look("d"), "d 80.2.1 800001fd 99 0 ann ann bob");
        Check.is("content", bob.read(1, 0, 20), "read 0123456789" + "\u0000".repeat(10));
    }

    private static void order() {
        Client ann = withFile();
        Alteration wrong = new Alteration().length(65).mode(0x200).mtime(1).group("x").name("/");
        Client cy = at(ann, "cy");
        Check.is("length", cy.alter(1, wrong), "error perm");
        Check.is("length", ann.alter(1, wrong), "error full");
        Check.is("mode", ann.alter(1, wrong.length(64)), "error mode");
        Check.is("mode", cy.alter(1, new Alteration().mode(0x200).group("x").name("/")), "error perm");
        Check.is("mtime", cy.alter(1, new Alteration().mtime(1).group("x").name("/")), "error perm");
        Check.is("group", ann.alter(1, wrong.mode(1)), "error user");
        Check.is("group", ann.alter(1, wrong.group("cy")), "error perm");
        Check.is("name", ann.alter(1, wrong.group("ann")), "error name");
        Check.is("nothing was done", ann.stat(1), "f 0.1.1 1fd 10 5 ann ann ann");
        Check.is("all", ann.alter(1, wrong.name("g")), "ok");
        Check.is("all", ann.stat(1), "g 0.2.1 1 1 64 ann ann ann");
    }

    private static void root() {
        Client ann = Client.of("ann");
        Check.is("name", ann.alter(0, new Alteration().name("r")), "error perm");
        Check.is("name", ann.alter(0, new Alteration().name("/")), "error perm");
        Check.is("mode", ann.alter(0, new Alteration().mode(Client.DIR | 7)), "ok");
        Check.is("mode alone", ann.stat(0), "/ 80.0.0 80000007 0 0 ann ann ann");
        Check.is("mtime", ann.alter(0, new Alteration().mtime(77)), "ok");
        Check.is("group", ann.alter(0, new Alteration().group("ann")), "ok");
        Check.is("stat", ann.stat(0), "/ 80.0.0 80000007 77 0 ann ann ann");
    }
}
