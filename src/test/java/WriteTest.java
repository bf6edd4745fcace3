/** Promise 2: type 118; promise 13: the blocks of files. */
public final class WriteTest {
    private static final String SIXTY_FOUR = "0123456789abcdefghijklmnopqrstuvwxyzABCDEFGHIJKLMNOPQRSTUVWXYZ+-";

    public static void main(String[] args) {
        contents();
        openModes();
        ends();
        appending();
        blocks();
        noBlocks();
        Check.end();
    }

    private static void contents() {
        TreeServer server = new TreeServer();
        Client ann = Client.of(server, 0, "ann");
        Client bob = Client.of(server, 1, "bob");
        ann.createAt(1, "f", 0x1FF, 2);
        server.clock(9);
        int writes = server.writes();
        Check.is("write", ann.write(1, 0, "hello"), "wrote 5");
        Check.is("28 bytes: two writes and two", server.writes(), writes + 4);
        Check.is("changed", ann.stat(1), "f 0.1.1 1fd 9 5 ann ann ann");
        Check.is("the directory is not", ann.stat(0), "/ 80.1.0 800001fd 0 0 ann ann ann");
        Check.is("amid", ann.write(1, 1, "EL"), "wrote 2");
        Check.is("read", ann.read(1, 0, 99), "read hELlo");
        Check.is("over the end", ann.write(1, 4, "0\u0000\u00ff"), "wrote 3");
        Check.is("read", ann.read(1, 0, 99), "read hELl0\u0000\u00ff");
        Check.is("behind the end", ann.write(1, 9, "!"), "wrote 1");
        Check.is("zeros", ann.read(1, 0, 99), "read hELl0\u0000\u00ff\u0000\u0000!");
        server.clock(-5);
        bob.walk(0, 1, "f");
        bob.open(1, 1);
        Check.is("the same", bob.write(1, 0, "h"), "wrote 1");
        Check.is("changes, too", bob.stat(1), "f 0.5.1 1fd 4294967291 10 ann ann bob");
        writes = server.writes();
        Check.is("nothing", ann.write(1, 0, ""), "wrote 0");
        Check.is("nothing far behind", ann.write(1, -1, ""), "wrote 0");
        Check.is("no change", server.writes(), writes);
        Check.is("no change", bob.stat(1), "f 0.5.1 1fd 4294967291 10 ann ann bob");
    }

    private static void openModes() {
        Client ann = Client.of("ann");
        ann.createAt(1, "f", 0x1FF, 0);
        String[] due = {"error open", "wrote 1", "wrote 1", "error open"};
        for (int mode = 0; mode < 4; mode++) {
            ann.walk(0, 2, "f");
            Check.is("not open", ann.write(2, 0, "a"), "error open");
            ann.open(2, mode);
            Check.is("open with " + mode, ann.write(2, 0, "a"), due[mode]);
            Check.is("nothing with " + mode, ann.write(2, 0, ""), due[mode].replace('1', '0'));
            ann.clunk(2);
        }
        Check.is("directory", ann.write(0, 0, "a"), "error open");
        ann.open(0, 0);
        Check.is("open directory", ann.write(0, 0, "a"), "error open");
    }

    private static void ends() {
        Client ann = Client.of("ann");
        ann.createAt(1, "f", 0x1FF, 2);
        int writes = ann.server.writes();
        Check.is("64", ann.write(1, 0, SIXTY_FOUR), "wrote 64");
        Check.is("87 bytes", ann.server.writes(), writes + 8);
        Check.is("read", ann.read(1, 0, 99), "read " + SIXTY_FOUR);
        Check.is("65", ann.write(1, 0, SIXTY_FOUR + "x"), "error full");
        Check.is("105", ann.write(1, 0, SIXTY_FOUR + SIXTY_FOUR.substring(23)), "error full");
        Check.is("last", ann.write(1, 63, "x"), "wrote 1");
        Check.is("behind", ann.write(1, 63, "xy"), "error full");
        Check.is("behind", ann.write(1, 64, "x"), "error full");
        Check.is("far behind", ann.write(1, 0x100000000L, "x"), "error full");
        Check.is("without sign", ann.write(1, -1, "x"), "error full");
        Check.is("without sign", ann.write(1, -2, "xyz"), "error full");
        Check.is("without sign", ann.write(1, Long.MIN_VALUE, "x"), "error full");
        Check.is("great", ann.write(1, Long.MAX_VALUE, "x"), "error full");
        Check.is("unchanged", ann.stat(1), "f 0.2.1 1fd 0 64 ann ann ann");
    }

    private static void appending() {
        Client ann = Client.of("ann");
        ann.createAt(1, "f", Client.APPEND | 0x1FF, 2);
        Check.is("at the end", ann.write(1, 0, "abc"), "wrote 3");
        Check.is("at the end", ann.write(1, 0, "def"), "wrote 3");
        Check.is("whatever the offset", ann.write(1, -1, "g"), "wrote 1");
        Check.is("read", ann.read(1, 0, 99), "read abcdefg");
        Check.is("too many", ann.write(1, 0, SIXTY_FOUR.substring(6)), "error full");
        Check.is("just enough", ann.write(1, 0, SIXTY_FOUR.substring(7)), "wrote 57");
        Check.is("no more", ann.write(1, 0, "x"), "error full");
        Check.is("but nothing", ann.write(1, 0, ""), "wrote 0");
        ann.alter(1, new Alteration().mode(0x1FF));
        Check.is("not append only any more", ann.write(1, 0, "ABC"), "wrote 3");
        Check.is("read", ann.read(1, 0, 8), "read ABCdefg7");
    }

    private static void blocks() {
        Client ann = Client.of("ann");
        ann.createAt(1, "f", 0x1FF, 2);
        Check.is("free", ann.server.free(), 23);
        int[] ends = {1, 16, 17, 32, 33, 48, 49, 64};
        int[] due = {22, 22, 21, 21, 20, 20, 19, 19};
        for (int i = 0; i < ends.length; i++) {
            ann.write(1, ends[i] - 1, "x");
            Check.is("free with " + ends[i], ann.server.free(), due[i]);
        }
        ann.write(1, 0, "x");
        Check.is("free", ann.server.free(), 19);
        ann.remove(1);
        Check.is("free", ann.server.free(), 24);
    }

    /** Five files of four blocks and the root's two take 22; a sixth one two more. */
    private static void noBlocks() {
        Client ann = Client.of("ann");
        for (int i = 0; i < 5; i++) {
            ann.createAt(1, "f" + i, 0x1FF, 2);
            ann.write(1, 63, "x");
            ann.clunk(1);
        }
        Check.is("free", ann.server.free(), 2);
        ann.createAt(1, "g", 0x1FF, 2);
        Check.is("too many", ann.write(1, 32, "x"), "error full");
        Check.is("enough", ann.write(1, 31, "x"), "wrote 1");
        Check.is("free", ann.server.free(), 0);
        Check.is("within its blocks", ann.write(1, 0, "0123456789012345678901234567890"), "wrote 31");
        Check.is("no block more", ann.write(1, 32, "x"), "error full");
        Check.is("length", ann.alter(1, new Alteration().length(33)), "error full");
        Check.is("the same length", ann.alter(1, new Alteration().length(32)), "ok");
        Check.is("an entry without a block", ann.createAt(2, "h", 0x1FF, 2), "0.0.7");
        Check.is("free", ann.server.free(), 0);
        Check.is("no block for it", ann.write(2, 0, "x"), "error full");
        ann.createAt(3, "i", Client.DIR | 0x1FF, 0);
        ann.clunk(3);
        Check.is("a directory's first entry", ann.createAt(3, "j", 0x1FF, 0, "i"), "error full");
        Check.is("the root's ninth entry", ann.createAt(4, "k", 0x1FF, 0), "error full");
        Check.is("nodes", ann.server.nodes(), 8);
        Check.is("shorter", ann.alter(1, new Alteration().length(16)), "ok");
        Check.is("free", ann.server.free(), 1);
        Check.is("a directory's first entry", ann.create(3, "j", 0x1FF, 0), "0.0.9");
        Check.is("free", ann.server.free(), 0);
        Check.is("no block for it", ann.write(2, 0, "x"), "error full");
        ann.remove(3);
        Check.is("free", ann.server.free(), 1);
        Check.is("the root's ninth entry", ann.create(4, "k", 0x1FF, 0), "0.0.10");
        Check.is("free", ann.server.free(), 0);
    }
}
