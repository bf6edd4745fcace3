/** Promise 1: a new object; and what the calls that only look answer of it (3, 6, 7, 11 to 14). */
public final class NewObjectTest {
    public static void main(String[] args) {
        TreeServer server = new TreeServer();
        for (int connection = 0; connection < 2; connection++) {
            Check.is("waiting", server.waiting(connection), 0);
            Check.is("take", server.take(connection), 0L);
            Check.is("status", server.status(connection), 0);
            Check.is("fids", server.fids(connection), 0);
        }
        Check.is("up", server.up(), true);
        Check.is("nodes", server.nodes(), 0);
        Check.is("free", server.free(), 24);
        Check.is("writes", server.writes(), 0);
        Check.is("restart of one that is up", server.restart(), false);
        Check.is("writes after a restart refused", server.writes(), 0);
        theRoot(server);
        noCut();
        Check.end();
    }

    private static void theRoot(TreeServer server) {
        Client ann = Client.of(server, 0, "ann");
        Check.is("root", ann.stat(0), "/ 80.0.0 800001fd 0 0 ann ann ann");
        ann.open(0, 0);
        Check.is("root's entries", ann.read(0, 0, 100), "read ");
    }

    private static void noCut() {
        Client ann = Client.of("ann");
        Check.is("create", ann.create(0, "f", 0x1FF, 0), "0.0.1");
        Check.is("up", ann.server.up(), true);
        Check.is("created at", ann.stat(0), "f 0.0.1 1fd 0 0 ann ann ann");
    }
}
