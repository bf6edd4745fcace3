/** Promise 2: types 120 and 122; promises 12 and 13 by the way. */
public final class RemoveTest {
    public static void main(String[] args) {
        removed();
        errors();
        notReleased();
        clunked();
        Check.end();
    }

    private static void removed() {
        TreeServer server = new TreeServer();
        Client ann = Client.of(server, 0, "ann");
        Client bob = Client.of(server, 1, "bob");
        ann.createAt(1, "d", Client.DIR | 0x1FF, 0);
        ann.clunk(1);
        ann.createAt(1, "f", 0x1FF, 0, "d");
        server.clock(7);
        Check.is("free", server.free(), 22);
        int writes = server.writes();
        bob.walk(0, 1, "d", "f");
        bob.walk(0, 2, "d");
        Check.is("file", bob.remove(1), "ok");
        Check.is("11 bytes: one write and two", server.writes(), writes + 3);
        Check.is("the directory changes", bob.stat(2), "d 80.2.1 800001fd 7 0 ann ann bob");
        Check.is("nodes", server.nodes(), 1);
        Check.is("free", server.free(), 23);
        Check.is("fids", server.fids(1), 2);
        Check.is("ann's fid is gone", ann.stat(1), "error gone");
        Check.is("directory", bob.remove(2), "ok");
        Check.is("the root changes", bob.stat(0), "/ 80.2.0 800001fd 7 0 ann ann bob");
        Check.is("nodes", server.nodes(), 0);
        Check.is("free", server.free(), 24);
    }

    private static void errors() {
        TreeServer server = new TreeServer();
        Client ann = Client.of(server, 0, "ann");
        Client cy = Client.of(server, 1, "cy");
        ann.createAt(1, "d", Client.DIR | 0x1FF, 0);
        ann.clunk(1);
        ann.createAt(1, "f", 0x1FF, 0, "d");
        int writes = server.writes();
        ann.walk(0, 2);
        Check.is("root", ann.remove(2), "error perm");
        Check.is("no such fid any more", ann.stat(2), "error fid");
        ann.walk(0, 2, "d");
        Check.is("entries", ann.remove(2), "error empty");
        Check.is("no such fid any more", ann.stat(2), "error fid");
        cy.walk(0, 2, "d");
        Check.is("perm is ahead", cy.remove(2), "error perm");
        cy.walk(0, 2, "d", "f");
        Check.is("cy may not w in d", cy.remove(2), "error perm");
        Check.is("no such fid any more", cy.remove(2), "error fid");
        Check.is("fids", server.fids(1), 1);
        Check.is("no change", server.writes(), writes);
        Check.is("nodes", server.nodes(), 2);

        // To remove a node its own mode and owner do not count.
        Client bob = Client.of(server, 1, "bob");
        ann.alter(1, new Alteration().mode(0));
        bob.walk(0, 1, "d", "f");
        Check.is("bob", bob.remove(1), "ok");
    }

    private static void notReleased() {
        TreeServer server = new TreeServer();
        Client ann = Client.of(server, 0, "ann");
        Client bob = Client.of(server, 1, "bob");
        bob.createAt(1, "f", 0x1FF, 0x40);
        ann.alter(0, new Alteration().mode(Client.DIR | 0x1C5));
        Check.is("bob may not any more", bob.remove(1), "error perm");
        ann.alter(0, new Alteration().mode(Client.DIR | 0x1FD));
        server.hangup(1);
        Check.is("the fid was not released, nor is it now", server.nodes(), 1);
        bob = Client.of(server, 1, "bob");
        bob.walk(0, 1, "f");
        bob.open(1, 0x40);
        int writes = server.writes();
        Check.is("once", bob.remove(1), "ok");
        Check.is("one change alone", server.writes(), writes + 3);
    }

    private static void clunked() {
        Client ann = Client.of("ann");
        ann.createAt(1, "f", 0x1FF, 2);
        int writes = ann.server.writes();
        Check.is("clunk", ann.clunk(1), "ok");
        Check.is("no such fid", ann.clunk(1), "error fid");
        Check.is("no change", ann.server.writes(), writes);
        Check.is("nodes", ann.server.nodes(), 1);
        Check.is("root", ann.clunk(0), "ok");
        Check.is("fids", ann.server.fids(0), 0);
    }
}
