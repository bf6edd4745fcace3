/** The edges that stand under TREE: how many nodes, paths, rights, blocks, names. */
public final class TreeEdgesTest {
    private static final String SIXTY_FOUR = "0123456789abcdefghijklmnopqrstuvwxyzABCDEFGHIJKLMNOPQRSTUVWXYZ+-";
    private static final String[] USERS = {"ann", "bob", "cy"};

    public static void main(String[] args) {
        twentyNodes();
        twentyInADirectory();
        paths();
        contents();
        root();
        groups();
        nineBits();
        rightsDoNotTakeAway();
        allBlocks();
        blocksOfAFile();
        blocksOfTheRoot();
        blocksOfADirectory();
        blocksOfADirectoryThatShrinks();
        lengthsOfNames();
        charactersOfNames();
        charactersOfNamesAnew();
        dots();
        Check.end();
    }

    private static void twentyNodes() {
        Check.sentence("NODES are directories and files; at most 20 besides the ROOT, a directory.");
        Client ann = Client.of("ann");
        for (int i = 1; i <= 20; i++) {
            ann.makeFile("n" + i, 0x1FF, "");
            Check.is("nodes", ann.server.nodes(), i);
        }
        int writes = ann.server.writes();
        Check.is("a file more", ann.create(0, "f", 0x1FF, 0), "error full");
        Check.is("a directory more", ann.create(0, "d", Client.DIR | 0x1FF, 0), "error full");
        Check.is("nodes", ann.server.nodes(), 20);
        Check.is("writes", ann.server.writes(), writes);
        Check.is("there are blocks enough", ann.server.free(), 19);
        ann.walk(0, 1, "n20");
        ann.remove(1);
        Check.is("one less and one more", ann.create(0, "f", 0x1FF, 0), "0.0.21");
        Check.is("nodes", ann.server.nodes(), 20);
    }

    private static void twentyInADirectory() {
        Check.sentence("NODES are directories and files; at most 20 besides the ROOT, a directory.");
        Client ann = Client.of("ann");
        ann.makeDirectory("d", 0x1FF);
        for (int i = 1; i <= 19; i++) {
            ann.makeDirectory("e" + i, 0x1FF, "d");
        }
        Check.is("nodes", ann.server.nodes(), 20);
        ann.makeFile("f", 0x1FF, "", "d", "e7");
        ann.makeFile("f", 0x1FF, "");
        Check.is("nodes", ann.server.nodes(), 20);
        Check.is("free", ann.server.free(), 24 - 1 - 5);
    }

    private static void paths() {
        Check.sentence("Each has a PATH (0 the root, then 1, 2, .. as they are created)");
        Client ann = Client.of("ann");
        Check.is("the root", ann.walk(0, 1, ".."), "walked 80.0.0");
        Check.is("1", ann.create(1, "a", 0x1FF, 0), "0.0.1");
        ann.remove(1);
        Check.is("2, though none is there", ann.createAt(1, "a", 0x1FF, 0), "0.0.2");
        Check.is("refused", ann.create(0, "a", 0x1FF, 0), "error exist");
        ann.createAt(2, "b", Client.DIR | 0x1FF, 0);
        Check.is("3, as none was refused", ann.stat(2), "b 80.0.3 800001fd 0 0 ann ann ann");
        ann.remove(1);
        Check.is("the others keep theirs", ann.stat(2), "b 80.0.3 800001fd 0 0 ann ann ann");
        Check.is("4", ann.createAt(1, "c", 0x1FF, 0, "b"), "0.0.4");
    }

    private static void contents() {
        Check.sentence("a file a CONTENT of at most 64 bytes");
        Client ann = Client.of("ann");
        ann.createAt(1, "f", 0x1FF, 2);
        Check.is("65 at once", ann.write(1, 0, SIXTY_FOUR + "x"), "error full");
        Check.is("64 at once", ann.write(1, 0, SIXTY_FOUR), "wrote 64");
        Check.is("one more", ann.write(1, 64, "x"), "error full");
        Check.is("all", ann.read(1, 0, 100), "read " + SIXTY_FOUR);
        Check.is("longer", ann.alter(1, new Alteration().length(65)), "error full");
        Check.is("as long", ann.alter(1, new Alteration().length(64)), "ok");
        Check.is("all", ann.read(1, 0, 100), "read " + SIXTY_FOUR);
    }

    private static void root() {
        Check.sentence("The root: mode 0x800001FD, all three \"ann\", name \"/\", version and MTIME 0.");
        TreeServer server = new TreeServer();
        server.clock(5);
        Check.is("stat", Client.of(server, 0, "cy").stat(0), "/ 80.0.0 800001fd 0 0 ann ann ann");
        Check.is("others may not w", Client.of(server, 0, "cy").create(0, "f", 0, 0), "error perm");
        Check.is("the group may", Client.of(server, 0, "bob").create(0, "f", 0, 0), "0.0.1");
        Check.is("the owner may", Client.of(server, 0, "ann").create(0, "g", 0, 0), "0.0.2");
        Check.is("others may r", Client.of(server, 0, "cy").open(0, 0), "80.2.0");
        Check.is("others may x", Client.of(server, 0, "cy").walk(0, 1, "f"), "walked 0.0.1");
    }

    /** Files whose group alone may r: whoever is in the group may open them. */
    private static void groups() {
        Check.sentence("in the group of each name is that user, and in \"ann\" also bob.");
        String[] owners = {"ann", "bob", "bob", "cy", "cy"};
        String[] groups = {"ann", "ann", "bob", "ann", "cy"};
        String[] members = {"ann bob", "ann bob", "bob", "ann bob", "cy"};
        for (int i = 0; i < owners.length; i++) {
            Client client = Client.of("ann");
            client.alter(0, new Alteration().mode(Client.DIR | 0x1FF));
            client.attach(1, owners[i]);
            client.create(1, "f", 0x1FF, 0);
            client.alter(1, new Alteration().group(groups[i]));
            client.alter(1, new Alteration().mode(4 << 3));
            client.clunk(1);
            for (String user : USERS) {
                client.attach(2, user);
                client.walk(2, 2, "f");
                boolean may = members[i].contains(user);
                Check.is(user + " reads " + owners[i] + "'s file of group " + groups[i], client.open(2, 0),
                    may ? "0.0.1" : "error perm");
                client.clunk(2);
            }
        }
    }

    /** A file of cy's of the group ann with one bit alone: the group may not what the owner may. */
    private static void nineBits() {
        Check.sentence("A user MAY do r, w or x with a node, if the mode says so for others, or for the group and the "
            + "user is in it, or for the owner and that is the user.");
        int[] modes = {3, 1, 0};
        for (int bit = 0; bit < 9; bit++) {
            Client client = Client.of("ann");
            client.alter(0, new Alteration().mode(Client.DIR | 0x1FF));
            client.attach(1, "cy");
            client.create(1, "f", 0x1FF, 0);
            client.alter(1, new Alteration().mode(1 << bit));
            client.clunk(1);
            for (String user : USERS) {
                client.attach(2, user);
                for (int right = 0; right < 3; right++) {
                    client.walk(2, 3, "f");
                    boolean reached = bit < 3 || bit < 6 && !user.equals("cy") || bit >= 6 && user.equals("cy");
                    Check.is(user + " with mode " + (1 << bit) + " opens with " + modes[right],
                        client.open(3, modes[right]), reached && bit % 3 == right ? "0.0.1" : "error perm");
                    client.clunk(3);
                }
                client.clunk(2);
            }
        }
    }

    private static void rightsDoNotTakeAway() {
        Check.sentence("if the mode says so for others");
        Client ann = Client.of("ann");
        ann.createAt(1, "f", 0x1FF, 0);
        ann.alter(1, new Alteration().mode(0x007));
        ann.clunk(1);
        ann.walk(0, 1, "f");
        Check.is("the owner, too", ann.open(1, 2), "0.0.1");
        ann.attach(2, "bob");
        ann.walk(2, 3, "f");
        Check.is("the group, too", ann.open(3, 3), "0.0.1");
    }

    /** Five files of 64 and one of 32 bytes take 22 blocks, the root with six entries takes two. */
    private static void allBlocks() {
        Check.sentence("The DISK has 24 blocks for nodes, the root among them");
        Client ann = Client.of("ann");
        for (int i = 0; i < 5; i++) {
            ann.makeFile("f" + i, 0x1FF, SIXTY_FOUR);
        }
        ann.createAt(1, "g", 0x1FF, 2);
        Check.is("free", ann.server.free(), 2);
        Check.is("three more", ann.write(1, 32, "x"), "error full");
        Check.is("two more", ann.write(1, 31, "x"), "wrote 1");
        Check.is("free", ann.server.free(), 0);
        Check.is("a write that takes one more", ann.write(1, 31, "xy"), "error full");
        Check.is("a length that takes one more", ann.alter(1, new Alteration().length(33)), "error full");
        Check.is("within the blocks", ann.write(1, 0, SIXTY_FOUR.substring(32)), "wrote 32");
        Check.is("free", ann.server.free(), 0);
    }

    private static void blocksOfAFile() {
        Check.sentence("a file takes (n + 15) / 16 of them for n bytes");
        for (int first = 0; first <= 48; first += 16) {
            Client ann = Client.of("ann");
            ann.createAt(1, "f", 0x1FF, 1);
            Check.is("free with 0", ann.server.free(), 23);
            for (int n = first + 1; n <= first + 16; n++) {
                ann.write(1, n - 1, "x");
                Check.is("free with " + n, ann.server.free(), 23 - (n + 15) / 16);
            }
            for (int n = first + 16; n >= first; n -= 2) {
                ann.alter(1, new Alteration().length(n));
                Check.is("free with " + n + " again", ann.server.free(), 23 - (n + 15) / 16);
            }
        }
    }

    private static void blocksOfTheRoot() {
        Check.sentence("a directory (e + 3) / 4 for e entries (without rest)");
        Client ann = Client.of("ann");
        Check.is("free with 0", ann.server.free(), 24);
        for (int e = 1; e <= 20; e++) {
            ann.makeFile("n" + e, 0x1FF, "");
            Check.is("free with " + e, ann.server.free(), 24 - (e + 3) / 4);
        }
    }

    private static void blocksOfADirectory() {
        Check.sentence("a directory (e + 3) / 4 for e entries (without rest)");
        Client ann = Client.of("ann");
        ann.makeDirectory("d", 0x1FF);
        Check.is("free with 0", ann.server.free(), 23);
        for (int e = 1; e <= 19; e++) {
            ann.makeFile("n" + e, 0x1FF, "", "d");
            Check.is("free with " + e, ann.server.free(), 23 - (e + 3) / 4);
        }
    }

    private static void blocksOfADirectoryThatShrinks() {
        Check.sentence("a directory (e + 3) / 4 for e entries (without rest)");
        Client ann = Client.of("ann");
        for (int e = 1; e <= 9; e++) {
            ann.makeFile("n" + e, 0x1FF, "");
        }
        for (int e = 8; e >= 0; e--) {
            ann.walk(0, 1, "n" + (9 - e));
            ann.remove(1);
            Check.is("free with " + e, ann.server.free(), 24 - (e + 3) / 4);
        }
    }

    private static void lengthsOfNames() {
        Check.sentence("A NAME FITS if it has 1 to 8 characters");
        for (int length = 0; length <= 12; length++) {
            Client ann = Client.of("ann");
            ann.createAt(1, "old", 0, 0);
            String name = "abcdefghijkl".substring(0, length);
            boolean fits = length >= 1 && length <= 8;
            Check.is("114 with " + length, ann.createAt(2, name, 0, 0), fits ? "0.0.2" : "error name");
            if (length > 0) {
                Check.is("126 with " + length, ann.alter(1, new Alteration().name("x" + name.substring(1))),
                    fits ? "ok" : "error name");
            }
        }
    }

    private static void charactersOfNames() {
        Check.sentence("characters 33 .. 126, none of them a /");
        for (int c = 0; c < 256; c++) {
            boolean fits = c >= 33 && c <= 126 && c != '/';
            String alone = String.valueOf((char) c);
            Check.is("114 with " + c, Client.of("ann").create(0, alone, 0, 0),
                fits && c != '.' ? "0.0.1" : "error name");
            Check.is("114 with " + c + " at the end", Client.of("ann").create(0, "abcdefg" + alone, 0, 0),
                fits ? "0.0.1" : "error name");
        }
    }

    private static void charactersOfNamesAnew() {
        Check.sentence("characters 33 .. 126, none of them a /");
        for (int first = 0; first < 256; first += 32) {
            Client ann = Client.of("ann");
            ann.createAt(1, "f", 0, 0);
            for (int c = first; c < first + 32; c++) {
                boolean fits = c >= 33 && c <= 126 && c != '/';
                Check.is("126 with " + c, ann.alter(1, new Alteration().name((char) c + "x")),
                    fits ? "ok" : "error name");
            }
        }
    }

    private static void dots() {
        Check.sentence("and is neither . nor ..");
        for (String name : new String[] {".", ".."}) {
            Client ann = Client.of("ann");
            Check.is("114 with " + name, ann.create(0, name, 0, 0), "error name");
            Check.is("114 with " + name, ann.create(0, name, Client.DIR, 0), "error name");
            ann.createAt(1, "f", 0, 0);
            Check.is("126 with " + name, ann.alter(1, new Alteration().name(name)), "error name");
        }
        for (String name : new String[] {"...", ".a", "a.", "..a", "a..", "........"}) {
            Client ann = Client.of("ann");
            ann.createAt(1, "f", 0, 0);
            Check.is("114 with " + name, ann.create(0, name, 0, 0), "0.0.2");
            Check.is("126 with " + name, ann.alter(1, new Alteration().name(name)), "error exist");
            ann.remove(0);
            Check.is("126 with " + name, ann.alter(1, new Alteration().name(name)), "ok");
        }
    }
}
