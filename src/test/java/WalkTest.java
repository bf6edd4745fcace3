/** Promise 2: type 110. */
public final class WalkTest {
    public static void main(String[] args) {
        walks();
        errors();
        permissions();
        Check.end();
    }

    /** The root with d (a directory, in it e, in that f) and the file g; fid 0 at the root. */
    private static Client tree() {
        Client ann = Client.of("ann");
        ann.createAt(1, "d", Client.DIR | 0x1FF, 0);
        ann.clunk(1);
        ann.createAt(1, "e", Client.DIR | 0x1FF, 0, "d");
        ann.clunk(1);
        ann.createAt(1, "f", 0x1FF, 0, "d", "e");
        ann.clunk(1);
        ann.createAt(1, "g", 0x1FF, 0);
        ann.clunk(1);
        return ann;
    }

    private static void walks() {
        Client ann = tree();
        Check.is("no names", ann.walk(0, 1), "walked");
        Check.is("at the root", ann.stat(1), "/ 80.2.0 800001fd 0 0 ann ann ann");
        Check.is("to itself, no names", ann.walk(1, 1), "walked");
        Check.is("three", ann.walk(0, 2, "d", "e", "f"), "walked 80.1.1 80.1.2 0.0.3");
        Check.is("at f", ann.stat(2), "f 0.0.3 1fd 0 0 ann ann ann");
        Check.is("no names from a file", ann.walk(2, 3), "walked");
        Check.is("at f, too", ann.stat(3), "f 0.0.3 1fd 0 0 ann ann ann");
        Check.is("upward", ann.walk(0, 4, "d", "..", "..", "g"), "walked 80.1.1 80.2.0 80.2.0 0.0.4");
        Check.is("itself", ann.walk(1, 1, "d", "e", ".."), "walked 80.1.1 80.1.2 80.1.1");
        Check.is("at d", ann.stat(1), "d 80.1.1 800001fd 0 0 ann ann ann");
        Check.is("fids", ann.server.fids(0), 5);
        Check.is("sixth", ann.walk(1, 0x90000000L, "e"), "walked 80.1.2");
        Check.is("no seventh", ann.walk(1, 8, "none"), "error fids");
        Check.is("to itself with six", ann.walk(1, 1, "e"), "walked 80.1.2");
        Check.is("the user goes along", ann.stat(0x90000000L), "e 80.1.2 800001fd 0 0 ann ann ann");
    }

    private static void errors() {
        Client ann = tree();
        Check.is("no such entry", ann.walk(0, 1, "x"), "error noent");
        Check.is("longer", ann.walk(0, 1, "dd"), "error noent");
        Check.is("empty", ann.walk(0, 1, ""), "error noent");
        Check.is("dot", ann.walk(0, 1, "."), "error noent");
        Check.is("three dots", ann.walk(0, 1, "..."), "error noent");
        Check.is("high bytes", ann.walk(0, 1, "\u00e4"), "error noent");
        Check.is("none was made", ann.server.fids(0), 1);
        Check.is("later", ann.walk(0, 1, "d", "x", "y"), "walked 80.1.1");
        Check.is("none was made", ann.server.fids(0), 1);
        Check.is("later, itself", ann.walk(0, 0, "d", "e", "x"), "walked 80.1.1 80.1.2");
        Check.is("it stays", ann.stat(0), "/ 80.2.0 800001fd 0 0 ann ann ann");
        Check.is("no directory later", ann.walk(0, 1, "g", "x"), "walked 0.0.4");
        ann.walk(0, 1, "g");
        Check.is("no directory", ann.walk(1, 2, "x"), "error dir");
        Check.is("no directory upward", ann.walk(1, 2, ".."), "error dir");
        Check.is("in use", ann.walk(0, 1, "x"), "error inuse");
        Check.is("no such fid", ann.walk(5, 1, "x"), "error fid");
        ann.open(1, 0);
        Check.is("open", ann.walk(1, 0, "x"), "error open");
        Check.is("open, itself", ann.walk(1, 1), "error open");
        Check.is("newfid is open, the fid is not", ann.walk(0, 1), "error inuse");
    }

    private static void permissions() {
        String[] users = {"ann", "bob", "cy"};
        String[][] due = {
            {"walked 80.3.0", "error perm", "error perm"},
            {"walked 80.3.0", "walked 80.3.0", "error perm"},
            {"walked 80.3.0", "walked 80.3.0", "walked 80.3.0"},
        };
        String[] names = {"o", "g", "x"};
        for (int user = 0; user < 3; user++) {
            TreeServer server = new TreeServer();
            Client ann = Client.of(server, 0, "ann");
            ann.makeDirectory("o", 0x1C0);
            ann.makeDirectory("g", 0x008);
            ann.makeDirectory("x", 0x001);
            Client client = Client.of(server, 1, users[user]);
            for (int i = 0; i < 3; i++) {
                client.walk(0, 1, names[i]);
                Check.is(users[user] + " in " + names[i], client.walk(1, 2, ".."), due[i][user]);
                Check.is("later", client.walk(0, 3, names[i], ".."), due[i][user].startsWith("error")
                    ? "walked 80.0." + (i + 1) : "walked 80.0." + (i + 1) + " 80.3.0");
                client.clunk(1);
                client.clunk(2);
                client.clunk(3);
            }
        }
    }
}
