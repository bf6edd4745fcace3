/** Promise 2: type 114; promises 12 and 13 by the way. */
public final class CreateTest {
    public static void main(String[] args) {
        created();
        modes();
        errors();
        names();
        permissions();
        openAfterwards();
        twentyNodes();
        paths();
        Check.end();
    }

    private static void created() {
        TreeServer server = new TreeServer();
        Client bob = Client.of(server, 1, "bob");
        server.clock(-1);
        Check.is("file", bob.createAt(1, "f", 0x1B6, 2), "0.0.1");
        Check.is("its stat", bob.stat(1), "f 0.0.1 1b4 4294967295 0 bob ann bob");
        Check.is("writes of 19 bytes", server.writes(), 4);
        Check.is("root", bob.stat(0), "/ 80.1.0 800001fd 4294967295 0 ann ann bob");
        server.clock(5);
        Check.is("directory", bob.createAt(2, "12345678", Client.DIR | 0x1FF, 0), "80.0.2");
        Check.is("its stat", bob.stat(2), "12345678 80.0.2 800001fd 5 0 bob ann bob");
        Check.is("writes of 26 bytes", server.writes(), 8);
        Check.is("nodes", server.nodes(), 2);
        Check.is("free", server.free(), 23);
        bob.open(0, 0);
        Check.is("the file is the first entry", Client.names(bob.read(0, 0, 64)), "59: f");
        Check.is("then comes the directory", Client.names(bob.read(0, 59, 66)), "66: 12345678");
    }

    private static void modes() {
        // What a directory's mode leaves of all nine bits, for a file and for a directory in it.
        long[] parents = {0x1FF, 0x1C0, 0x1ED, 0x0C0, 0x092 | 0x1C0};
        for (long parent : parents) {
            Client ann = Client.of("ann");
            ann.createAt(1, "d", Client.DIR | Client.APPEND | 0x1FF, 0);
            ann.alter(1, new Alteration().mode(Client.DIR | Client.EXCL | parent));
            ann.clunk(1);
            ann.createAt(1, "f", Client.APPEND | 0x1FF, 0, "d");
            long file = Client.APPEND | 0x1FF & (0x049 | parent);
            Check.is("file in " + parent, ann.stat(1), "f 40.0.2 " + Long.toHexString(file) + " 0 0 ann ann ann");
            ann.createAt(2, "e", Client.DIR | Client.APPEND | Client.EXCL | 0x1FF, 0, "d");
            long directory = 0xE0000000L | 0x1FF & parent;
            Check.is("directory in " + parent, ann.stat(2),
                "e e0.0.3 " + Long.toHexString(directory) + " 0 0 ann ann ann");
            ann.createAt(3, "n", 0, 0, "d");
            Check.is("no bits in " + parent, ann.stat(3), "n 0.0.4 0 0 0 ann ann ann");
        }
    }

    private static void errors() {
        Client ann = Client.of("ann");
        ann.createAt(1, "f", 0x1FF, 0);
        Check.is("open", ann.create(1, "", 0, 0), "error open");
        ann.walk(0, 2, "f");
        Check.is("no directory", ann.create(2, "", 0, 0), "error dir");
        Check.is("name ahead of mode", ann.create(0, "", 0x200, 0xFF), "error name");
        Check.is("perm's bits", ann.create(0, "f", 0x200, 0), "error mode");
        Check.is("perm's bits", ann.create(0, "f", 0x10000000L, 0), "error mode");
        Check.is("mode's bits", ann.create(0, "f", 0, 4), "error mode");
        Check.is("mode's bits", ann.create(0, "f", 0, 0x20), "error mode");
        Check.is("mode's bits", ann.create(0, "f", 0, 0x80), "error mode");
        for (int mode : new int[] {1, 2, 3, 0x10, 0x40}) {
            Check.is("directory with mode", ann.create(0, "f", Client.DIR, mode), "error mode");
        }
        Check.is("exists", ann.create(0, "f", 0, 0x53), "error exist");
        Check.is("exists, as directory", ann.create(0, "f", Client.DIR, 0), "error exist");
        Check.is("nothing changed", ann.stat(0), "/ 80.1.0 800001fd 0 0 ann ann ann");
        Check.is("writes", ann.server.writes(), 4);
        Check.is("fids", ann.server.fids(0), 3);
        ann.open(0, 0);
        Check.is("open directory", ann.create(0, "x", 0, 0), "error open");
    }

    private static void names() {
        for (String wrong : new String[] {"", ".", "..", "/", "a/b", "123456789", "a b", " ", "\u007f", "a\u00e4",
            "\u0000", "\u001f", "\u00ff", "12345678901234567890"}) {
            Check.is("name " + wrong, Client.of("ann").create(0, wrong, 0, 0), "error name");
        }
        for (String fits : new String[] {"a", "...", "12345678", "!", "~", ".a", "a.", "........", "a.."}) {
            Check.is("name " + fits, Client.of("ann").create(0, fits, 0, 0), "0.0.1");
        }
    }

    private static void permissions() {
        TreeServer server = new TreeServer();
        Client ann = Client.of(server, 0, "ann");
        Client cy = Client.of(server, 1, "cy");
        ann.createAt(1, "f", 0x1FF, 0);
        Check.is("cy may not w in the root", cy.create(0, "f", 0, 0), "error perm");
        Check.is("mode is ahead", cy.create(0, "f", 0x400, 0), "error mode");
        ann.createAt(2, "d", Client.DIR | 0x1FF, 0);
        ann.alter(2, new Alteration().mode(Client.DIR | 2));
        cy.walk(0, 1, "d");
        Check.is("for others", cy.create(1, "g", 0x1FF, 0), "0.0.3");
        Check.is("owner and group", cy.stat(1), "g 0.0.3 4b 0 0 cy ann cy");

        server = new TreeServer();
        Client bob = Client.of(server, 0, "bob");
        bob.createAt(1, "d", Client.DIR | 0x1FF, 0);
        bob.alter(1, new Alteration().group("bob"));
        bob.createAt(2, "e", 0x1FF, 0, "d");
        Check.is("the directory's group", bob.stat(2), "e 0.0.2 1fd 0 0 bob bob bob");
    }

    private static void openAfterwards() {
        Client ann = Client.of("ann");
        Check.is("no rights, but open", ann.createAt(1, "f", 0, 2), "0.0.1");
        Check.is("write", ann.write(1, 0, "abc"), "wrote 3");
        Check.is("read", ann.read(1, 1, 9), "read bc");
        ann.walk(0, 2, "f");
        Check.is("not again", ann.open(2, 0), "error perm");
        ann.createAt(3, "g", 0x1FF, 0x51);
        Check.is("to write alone", ann.read(3, 0, 1), "error open");
        ann.clunk(3);
        Check.is("to remove", ann.server.nodes(), 1);
        ann.createAt(3, "h", 0x1FF, 0);
        Check.is("to read alone", ann.write(3, 0, "a"), "error open");
        ann.createAt(4, "d", Client.DIR | 0x1FF, 0);
        Check.is("a directory is open", ann.read(4, 0, 100), "read ");
        Check.is("a directory is open", ann.create(4, "x", 0, 0), "error open");
    }

    private static void twentyNodes() {
        Client ann = Client.of("ann");
        for (int i = 0; i < 20; i++) {
            ann.makeFile("n" + i, 0x1FF, "");
            Check.is("nodes", ann.server.nodes(), i + 1);
            Check.is("free", ann.server.free(), 24 - (i + 4) / 4);
        }
        int writes = ann.server.writes();
        Check.is("exist is ahead", ann.createAt(1, "n3", 0x1FF, 0), "error exist");
        Check.is("no more", ann.create(1, "n20", 0x1FF, 0), "error full");
        Check.is("no more", ann.create(1, "d", Client.DIR, 0), "error full");
        Check.is("writes", ann.server.writes(), writes);
        ann.walk(0, 2, "n7");
        ann.remove(2);
        Check.is("one more again", ann.create(1, "n20", 0x1FF, 0), "0.0.21");
        Check.is("nodes", ann.server.nodes(), 20);
    }

    private static void paths() {
        Client ann = Client.of("ann");
        for (int i = 1; i <= 10; i++) {
            Check.is("path", ann.createAt(1, "f", 0x1FF, 2), "0.0." + i);
            Check.is("empty", ann.read(1, 0, 64), "read ");
            ann.write(1, 10, "old content");
            ann.remove(1);
            Check.is("free", ann.server.free(), 24);
        }
        Check.is("root", ann.stat(0), "/ 80.20.0 800001fd 0 0 ann ann ann");
    }
}
