/** The edges of type 114. */
public final class CreateEdgesTest {
    private static final String SIXTY_FOUR = "0123456789abcdefghijklmnopqrstuvwxyzABCDEFGHIJKLMNOPQRSTUVWXYZ+-";

    public static void main(String[] args) {
        open();
        noDirectory();
        nameDoesNotFit();
        permBits();
        modeBits();
        directoryWithMode();
        mayNotW();
        exists();
        existsElsewhere();
        noBlockForTheEntry();
        orderOfErrors();
        newLastEntry();
        modesOfFiles();
        modesOfDirectories();
        ownersAndGroups();
        directoryChanges();
        nothingOfWhatWas();
        openWithEachMode();
        openWithoutRights();
        toRemove();
        refused();
        Check.end();
    }

    private static void open() {
        Check.sentence("114 fid[4] name[s] perm[4] mode[1]: open: \"open\".");
        Client ann = Client.of("ann");
        ann.createAt(1, "d", Client.DIR | 0x1FF, 0);
        Check.is("a directory that was created", ann.create(1, "x", 0x1FF, 0), "error open");
        ann.createAt(2, "f", 0x1FF, 0);
        Check.is("ahead of dir", ann.create(2, "", 0x1FF, 0), "error open");
        ann.walk(0, 3, "d");
        ann.open(3, 0);
        Check.is("a directory that was opened", ann.create(3, "x", 0x1FF, 0), "error open");
        ann.walk(0, 4, "d");
        Check.is("not open", ann.create(4, "x", 0x1FF, 0), "0.0.3");
    }

    private static void noDirectory() {
        Check.sentence("No directory: \"dir\".");
        Client ann = Client.of("ann");
        ann.makeFile("f", 0x1FF, "");
        ann.walk(0, 1, "f");
        Check.is("a file", ann.create(1, "x", 0x1FF, 0), "error dir");
        Check.is("ahead of the name", ann.create(1, "", 0x1FF, 0), "error dir");
    }

    private static void permBits() {
        Check.sentence("perm has bits other than 0xE00001FF");
        for (int bit = 0; bit < 32; bit++) {
            long perm = 1L << bit;
            boolean other = (perm & 0xE00001FFL) == 0;
            Check.is("bit " + bit, Client.of("ann").create(0, "f", perm, 0).equals("error mode"), other);
            Check.is("all and bit " + bit, Client.of("ann").create(0, "f", 0xE00001FFL | perm, 0).equals("error mode"),
                other);
        }
        Check.is("all bits", Client.of("ann").create(0, "f", 0xFFFFFFFFL, 0), "error mode");
    }

    private static void modeBits() {
        Check.sentence("or mode others than 0x53");
        for (int mode = 0; mode < 256; mode++) {
            Check.is("mode " + mode, Client.of("ann").create(0, "f", 0x1FF, mode),
                (mode & ~0x53) != 0 ? "error mode" : "0.0.1");
        }
    }

    private static void directoryWithMode() {
        Check.sentence("or mode is not 0 and perm has 0x80000000: \"mode\"");
        for (int mode : new int[] {1, 2, 3, 0x10, 0x40, 0x50, 0x53}) {
            Check.is("mode " + mode, Client.of("ann").create(0, "d", Client.DIR | 0x1FF, mode), "error mode");
            Check.is("a file", Client.of("ann").create(0, "d", 0x600001FFL, mode), "60.0.1");
        }
        Check.is("mode 0", Client.of("ann").create(0, "d", Client.DIR | 0x1FF, 0), "80.0.1");
    }

    private static void mayNotW() {
        Check.sentence("The user may not w: \"perm\".");
        for (int bit = 0; bit < 9; bit++) {
            Client ann = Client.of("ann");
            ann.makeDirectory("d", 0x1FF);
            ann.walk(0, 1, "d");
            ann.alter(1, new Alteration().mode(Client.DIR | 1 << bit));
            String[] users = {"ann", "bob", "cy"};
            for (int user = 0; user < 3; user++) {
                ann.attach(2, users[user]);
                ann.walk(2, 2, "d");
                boolean may = bit == 1 || bit == 4 && user < 2 || bit == 7 && user == 0;
                Check.is(users[user] + " with mode " + (1 << bit), ann.create(2, users[user], 0x1FF, 0),
                    may ? "0.0." + (2 + user) : "error perm");
                ann.clunk(2);
            }
        }
    }

    private static void exists() {
        Check.sentence("An entry has the name: \"exist\".");
        Client ann = Client.of("ann");
        ann.makeFile("12345678", 0x1FF, "");
        ann.makeDirectory("d", 0x1FF);
        Check.is("a file", ann.create(0, "12345678", 0x1FF, 0), "error exist");
        Check.is("a directory", ann.create(0, "d", 0x1FF, 0), "error exist");
        Check.is("a directory for a file", ann.create(0, "12345678", Client.DIR, 0), "error exist");
        Check.is("shorter", ann.createAt(1, "1234567", 0x1FF, 0), "0.0.3");
        Check.is("longer", ann.createAt(2, "dd", 0x1FF, 0), "0.0.4");
        Check.is("in other letters", ann.createAt(3, "D", 0x1FF, 0), "0.0.5");
        ann.walk(0, 4, "d");
        ann.remove(4);
        Check.is("when it is removed", ann.createAt(4, "d", 0x1FF, 0), "0.0.6");
    }

    private static void existsElsewhere() {
        Check.sentence("An entry has the name: \"exist\".");
        Client ann = Client.of("ann");
        ann.makeDirectory("d", 0x1FF);
        ann.makeFile("x", 0x1FF, "", "d");
        Check.is("only in another directory", ann.createAt(1, "x", 0x1FF, 0), "0.0.3");
        Check.is("that of the directory itself", ann.createAt(2, "d", 0x1FF, 0, "d"), "0.0.4");
        Check.is("there", ann.createAt(3, "x", 0x1FF, 0, "d"), "error exist");
    }

    /** Twenty-two blocks for five files and the root with eight entries, two for another file. */
    private static void noBlockForTheEntry() {
        Check.sentence("20 nodes are there, or the blocks do not suffice: \"full\".");
        Client ann = Client.of("ann");
        for (int i = 0; i < 5; i++) {
            ann.makeFile("f" + i, 0x1FF, SIXTY_FOUR);
        }
        ann.makeFile("g", 0x1FF, SIXTY_FOUR.substring(32));
        ann.makeDirectory("d", 0x1FF);
        Check.is("free", ann.server.free(), 0);
        Check.is("a first entry", ann.createAt(1, "x", 0x1FF, 0, "d"), "error full");
        Check.is("the root's eighth", ann.createAt(2, "x", 0x1FF, 0), "0.0.8");
        Check.is("the root's ninth", ann.createAt(3, "y", 0x1FF, 0), "error full");
        Check.is("as a directory", ann.create(3, "y", Client.DIR | 0x1FF, 0), "error full");
        Check.is("nodes", ann.server.nodes(), 8);
        ann.walk(0, 4, "g");
        ann.alter(4, new Alteration().length(16));
        Check.is("when a block is free", ann.create(1, "x", 0x1FF, 0), "0.0.9");
        Check.is("free", ann.server.free(), 0);
        Check.is("the root's ninth", ann.create(3, "y", 0x1FF, 0), "error full");
    }

    private static void orderOfErrors() {
        Check.sentence("HANDLING, the first error that applies.");
        Client ann = Client.of("ann");
        ann.makeFile("f", 0x1FF, "");
        ann.attach(1, "cy");
        Check.is("name is ahead of mode", ann.create(1, "..", 0x200, 0xFF), "error name");
        Check.is("mode is ahead of perm", ann.create(1, "f", 0x200, 0), "error mode");
        Check.is("mode is ahead of perm", ann.create(1, "f", 0, 0x80), "error mode");
        Check.is("mode is ahead of perm", ann.create(1, "f", Client.DIR, 1), "error mode");
        Check.is("perm is ahead of exist", ann.create(1, "f", 0, 0), "error perm");
        for (int i = 1; i < 20; i++) {
            ann.makeFile("n" + i, 0, "");
        }
        Check.is("exist is ahead of full", ann.create(0, "n5", 0, 0), "error exist");
        Check.is("full", ann.create(0, "m", 0, 0), "error full");
        Check.is("perm is ahead of full", ann.create(1, "m", 0, 0), "error perm");
    }

    private static void newLastEntry() {
        Check.sentence("there is a new last entry");
        Client ann = Client.of("ann");
        ann.makeFile("c", 0x1FF, "");
        ann.makeFile("a", 0x1FF, "");
        ann.walk(0, 1, "c");
        ann.remove(1);
        ann.makeFile("b", 0x1FF, "");
        ann.makeFile("c", 0x1FF, "");
        ann.open(0, 0);
        Check.is("first", Client.names(ann.read(0, 0, 60)), "59: a");
        Check.is("then", Client.names(ann.read(0, 59, 60)), "59: b");
        Check.is("last", Client.names(ann.read(0, 118, 60)), "59: c");
        Check.is("no more", Client.names(ann.read(0, 177, 60)), "0:");
    }

    /** Each bit of the directory's mode alone, and a directory in which none but others may w. */
    private static void modesOfFiles() {
        Check.sentence("mode perm & (0xFFFFFE49 or the directory's mode)");
        for (int bit = 0; bit < 9; bit++) {
            int parent = 2 | 1 << bit;
            Client ann = inDirectory(parent);
            long due = 0x1FF & (0x049 | parent);
            Check.is("file in " + parent, ann.create(1, "f", 0x600001FFL, 0), "60.0.2");
            Check.is("its mode", ann.stat(1), "f 60.0.2 6" + String.format("%07x", due) + " 0 0 ann ann ann");
        }
        for (int perm : new int[] {0, 1, 0x080, 0x124, 0x1B6}) {
            Client ann = inDirectory(0x1FF);
            ann.create(1, "f", perm, 0);
            Check.is("perm " + perm, ann.stat(1), "f 0.0.2 " + Integer.toHexString(perm) + " 0 0 ann ann ann");
        }
    }

    private static void modesOfDirectories() {
        Check.sentence("for a directory perm & (0xFFFFFE00 or the directory's mode)");
        for (int bit = 0; bit < 9; bit++) {
            int parent = 2 | 1 << bit;
            Client ann = inDirectory(parent);
            Check.is("directory in " + parent, ann.create(1, "e", 0xE00001FFL, 0), "e0.0.2");
            Check.is("its mode", ann.stat(1), "e e0.0.2 e" + String.format("%07x", parent) + " 0 0 ann ann ann");
        }
        for (long perm : new long[] {0, 1, 0x080, 0x124, 0x1B6, Client.APPEND, Client.EXCL}) {
            Client ann = inDirectory(0x1FF);
            ann.create(1, "e", Client.DIR | perm, 0);
            Check.is("perm " + perm, ann.stat(1).split(" ")[2], Long.toHexString(Client.DIR | perm));
        }
    }

    /** Fid 1 at a directory with this mode, whose own higher bits do not count for what is in it. */
    private static Client inDirectory(int mode) {
        Client ann = Client.of("ann");
        ann.makeDirectory("d", Client.APPEND | Client.EXCL | 0x1FF);
        ann.walk(0, 1, "d");
        ann.alter(1, new Alteration().mode(0xE0000000L | mode));
        return ann;
    }

    private static void ownersAndGroups() {
        Check.sentence("its owner and changer are the user, its group is the directory's, version 0, MTIME the clock");
        for (String user : new String[] {"ann", "bob", "cy"}) {
            Client client = Client.of("ann");
            client.alter(0, new Alteration().mode(Client.DIR | 0x1FF));
            client.attach(1, user);
            client.server.clock(-7);
            client.create(1, "d", Client.DIR | 0x1FF, 0);
            Check.is("in the root", client.stat(1), "d 80.0.1 800001ff 4294967289 0 " + user + " ann " + user);
            client.alter(1, new Alteration().group(user));
            client.attach(2, "bob");
            client.walk(2, 2, "d");
            client.server.clock(9);
            client.create(2, "f", 0x1FF, 0);
            Check.is("in a directory of that group", client.stat(2), "f 0.0.2 1ff 9 0 bob " + user + " bob");
        }
    }

    private static void directoryChanges() {
        Check.sentence("the directory changes, too");
        Client ann = Client.of("ann");
        ann.makeDirectory("d", 0x1FF);
        ann.attach(1, "bob");
        ann.walk(1, 1, "d");
        ann.server.clock(9);
        ann.create(1, "f", 0x1FF, 0);
        Check.is("it", ann.look("d"), "d 80.1.1 800001fd 9 0 ann ann bob");
        Check.is("not that above", ann.stat(0), "/ 80.1.0 800001fd 0 0 ann ann ann");
    }

    private static void nothingOfWhatWas() {
        Check.sentence("version 0, MTIME the clock");
        Client ann = Client.of("ann");
        ann.createAt(1, "old", 0x1FF, 2);
        ann.write(1, 0, SIXTY_FOUR);
        ann.remove(1);
        Check.is("free", ann.server.free(), 24);
        ann.createAt(1, "new", 0x1FF, 2);
        Check.is("no content", ann.read(1, 0, 99), "read ");
        Check.is("no version", ann.stat(1), "new 0.0.2 1fd 0 0 ann ann ann");
        ann.write(1, 20, "x");
        Check.is("zeros", ann.read(1, 0, 99), "read " + "\u0000".repeat(20) + "x");
        ann.remove(1);
        ann.makeDirectory("d", 0x1FF);
        Check.is("no entries", ann.look("d"), "d 80.0.3 800001fd 0 0 ann ann ann");
        Check.is("free", ann.server.free(), 23);
    }

    private static void openWithEachMode() {
        Check.sentence("The fid is at it, open with mode & 3");
        String[] reads = {"read ", "error open", "read ", "read "};
        String[] writes = {"error open", "wrote 1", "wrote 1", "error open"};
        for (int mode = 0; mode < 4; mode++) {
            for (int more : new int[] {0, 0x10, 0x40, 0x50}) {
                Client ann = Client.of("ann");
                Check.is("create", ann.create(0, "f", 0x1FF, mode | more), "0.0.1");
                Check.is("four writes, also with 0x10", ann.server.writes(), 4);
                Check.is("read with " + mode, ann.read(0, 0, 9), reads[mode]);
                Check.is("write with " + mode, ann.write(0, 0, "x"), writes[mode]);
                Check.is("fids", ann.server.fids(0), 1);
            }
        }
    }

    private static void openWithoutRights() {
        Check.sentence("(whatever its mode lets the user do)");
        Client ann = Client.of("ann");
        ann.createAt(1, "f", 0, 2);
        Check.is("write", ann.write(1, 0, "x"), "wrote 1");
        Check.is("read", ann.read(1, 0, 9), "read x");
        ann.walk(0, 2, "f");
        Check.is("not when it is opened again", ann.open(2, 0), "error perm");
        ann.createAt(3, "d", Client.DIR, 0);
        Check.is("a directory", ann.read(3, 0, 9), "read ");
    }

    private static void toRemove() {
        Check.sentence("to remove if 0x40");
        for (int mode : new int[] {0, 3, 0x10, 0x13, 0x40, 0x43, 0x50, 0x53}) {
            Client ann = Client.of("ann");
            ann.createAt(1, "f", 0, mode);
            ann.clunk(1);
            Check.is("released with " + mode, ann.server.nodes(), mode >= 0x40 ? 0 : 1);
        }
    }

    private static void refused() {
        Check.sentence("A call that is refused changes nothing.");
        Client ann = Client.of("ann");
        ann.makeFile("f", 0x1FF, "");
        int writes = ann.server.writes();
        ann.create(0, "f", 0x1FF, 0);
        ann.create(0, "..", 0x1FF, 0);
        ann.create(0, "g", 0x200, 0);
        Check.is("writes", ann.server.writes(), writes);
        Check.is("nodes", ann.server.nodes(), 1);
        Check.is("the fid is where it was, not open", ann.walk(0, 1, "f"), "walked 0.0.1");
        Check.is("root", ann.stat(0), "/ 80.1.0 800001fd 0 0 ann ann ann");
    }

    private static void nameDoesNotFit() {
        Check.sentence("The name does not fit: \"name\".");
        Client ann = Client.of("ann");
        ann.attach(1, "cy");
        for (String name : new String[] {"", ".", "..", "/", "a/", "123456789", " ", "\u007f", "\u00ff"}) {
            Check.is("name " + name, ann.create(0, name, 0x1FF, 0), "error name");
            Check.is("ahead of perm", ann.create(1, name, 0x1FF, 0), "error name");
        }
        Check.is("nodes", ann.server.nodes(), 0);
    }
}
