/** Promises 8 to 11 and 14: the clock, cuts, restarts, writes. */
public final class CutTest {
    public static void main(String[] args) {
        refused();
        cutsOfACreation();
        cutsOfARelease();
        cutThatIsNotReached();
        cutInPlaceOfAnother();
        cutOutlivesWhatIsNoChange();
        clocks();
        takeThatIsCut();
        feedOfMore();
        everyKindAfterRestart();
        restartTwice();
        Check.end();
    }

    private static void refused() {
        TreeServer server = new TreeServer();
        Check.is("-1", server.cut(-1), false);
        Check.is("least", server.cut(Integer.MIN_VALUE), false);
        Check.is("restart", server.restart(), false);
        Check.is("0", server.cut(0), true);
        Check.is("refused leaves the one set", server.cut(-1), false);
        Check.is("create", Client.of(server, 0, "ann").create(0, "f", 0, 0), "none");
        Check.is("up", server.up(), false);
        Check.is("cut when down", server.cut(5), false);
        Check.is("restart", server.restart(), true);
        Check.is("up", server.up(), true);
        Check.is("restart again", server.restart(), false);
        Check.is("no cut any more", Client.of(server, 0, "ann").create(0, "f", 0, 0), "0.0.1");
    }

    /** A creation of 19 bytes: two writes to the log, one that closes it, one that does it. */
    private static void cutsOfACreation() {
        for (int k = 0; k <= 5; k++) {
            TreeServer server = new TreeServer();
            Client ann = Client.of(server, 0, "ann");
            server.clock(3);
            server.cut(k);
            Check.is("create", ann.create(0, "f", 0x1FF, 0), k < 4 ? "none" : "0.0.1");
            Check.is("up", server.up(), k >= 4);
            Check.is("writes", server.writes(), Math.min(k, 4));
            Check.is("nodes", server.nodes(), k < 4 ? 0 : 1);
            Check.is("free", server.free(), k < 4 ? 24 : 23);
            Check.is("fids", server.fids(0), k < 4 ? 0 : 1);
            server.clock(8);
            Check.is("restart", server.restart(), k < 4);
            Check.is("writes", server.writes(), k < 4 ? k + 1 : 4);
            Check.is("nodes", server.nodes(), k < 3 ? 0 : 1);
            Check.is("free", server.free(), k < 3 ? 24 : 23);
            ann = Client.of(server, 0, "ann");
            Check.is("it", ann.look("f"), k < 3 ? "error noent" : "f 0.0.1 1fd 3 0 ann ann ann");
            Check.is("root", ann.stat(0), k < 3 ? "/ 80.0.0 800001fd 0 0 ann ann ann"
                : "/ 80.1.0 800001fd 3 0 ann ann ann");
            Check.is("next path", ann.create(0, "g", 0x1FF, 0), k < 3 ? "0.0.1" : "0.0.2");
        }
    }

    private static void cutsOfARelease() {
        for (int k = 0; k <= 3; k++) {
            TreeServer server = new TreeServer();
            Client ann = Client.of(server, 0, "ann");
            ann.createAt(1, "f", 0x1FF, 0x40);
            int writes = server.writes();
            server.cut(k);
            Check.is("clunk", ann.clunk(1), k < 3 ? "none" : "ok");
            Check.is("up", server.up(), k >= 3);
            Check.is("writes", server.writes(), writes + k);
            Check.is("nodes", server.nodes(), k < 3 ? 1 : 0);
            server.restart();
            Check.is("nodes", server.nodes(), k < 2 ? 1 : 0);
        }
    }

    private static void cutThatIsNotReached() {
        Client ann = Client.of("ann");
        ann.server.cut(4);
        Check.is("four writes", ann.createAt(1, "f", 0x1FF, 0), "0.0.1");
        Check.is("the cut is over", ann.createAt(2, "g", 0x1FF, 0), "0.0.2");
        ann.server.cut(Integer.MAX_VALUE);
        Check.is("great", ann.createAt(3, "h", 0x1FF, 0), "0.0.3");
        Check.is("writes", ann.server.writes(), 12);
    }

    private static void cutInPlaceOfAnother() {
        Client ann = Client.of("ann");
        ann.server.cut(0);
        Check.is("another", ann.server.cut(100), true);
        Check.is("create", ann.createAt(1, "f", 0x1FF, 0), "0.0.1");
        ann.server.cut(100);
        ann.server.cut(0);
        Check.is("create", ann.createAt(2, "g", 0x1FF, 0), "none");
    }

    private static void cutOutlivesWhatIsNoChange() {
        Client ann = Client.of("ann");
        ann.createAt(1, "f", 0x1FF, 2);
        ann.server.cut(1);
        ann.write(1, 0, "");
        ann.create(1, "g", 0, 0);
        ann.alter(1, new Alteration());
        ann.walk(0, 2, "f");
        ann.clunk(2);
        ann.server.hangup(1);
        ann.version(95, "");
        Check.is("up", ann.server.up(), true);
        Check.is("write", ann.write(1, 0, "x"), "none");
        Check.is("down", ann.server.up(), false);
        Check.is("writes", ann.server.writes(), 5);
    }

    private static void clocks() {
        TreeServer server = new TreeServer();
        Client ann = Client.of(server, 0, "ann");
        int path = 0;
        for (int time : new int[] {1, -1, Integer.MAX_VALUE, Integer.MIN_VALUE, 0}) {
            server.clock(time);
            ann.createAt(1, "f", 0x1FF, 0);
            path++;
            Check.is("mtime", ann.stat(1), "f 0.0." + path + " 1fd " + (time & 0xFFFFFFFFL) + " 0 ann ann ann");
            ann.remove(1);
        }
        server.cut(0);
        ann.create(0, "f", 0x1FF, 0);
        server.clock(500);
        server.restart();
        ann = Client.of(server, 0, "ann");
        ann.create(0, "f", 0x1FF, 0);
        Check.is("set when down", ann.stat(0), "f 0.0.6 1fd 500 0 ann ann ann");
    }

    /** A change that waits behind much output is done, and cut off, by a take. */
    private static void takeThatIsCut() {
        TreeServer server = new TreeServer();
        Client ann = Client.of(server, 0, "ann");
        for (int i = 0; i < 10; i++) {
            ann.feed(Bytes.message(100, i, new Bytes().number(95, 4).text("").all()));
        }
        ann.feed(Bytes.message(114, 1, new Bytes().number(0, 4).text("f").number(0x1FF, 4).number(0, 1).all()));
        server.cut(2);
        Check.is("it waits", server.nodes() + " " + server.waiting(0), "0 140");
        server.take(0);
        Check.is("it waits", server.up(), true);
        Check.is("the bytes that waited ahead", server.take(0), 0x000E657A69736D00L);
        Check.is("down", server.up(), false);
        Check.is("waiting", server.waiting(0), 0);
        Check.is("writes", server.writes(), 2);
    }

    /** What stands behind the message that is cut off is lost. */
    private static void feedOfMore() {
        TreeServer server = new TreeServer();
        Client ann = Client.of(server, 0, "ann");
        byte[] create = Bytes.message(114, 1, new Bytes().number(0, 4).text("f").number(0x1FF, 4).number(0, 1).all());
        byte[] both = new Bytes().raw(create).raw("xyz").all();
        server.cut(1);
        for (int i = 0; i < create.length - 8; i++) {
            server.feed(0, create[i], 1);
        }
        long last = Bytes.numberIn(both, create.length - 5, 8);
        server.feed(0, Bytes.numberIn(create, create.length - 8, 3), 3);
        Check.is("feed", server.feed(0, last, 8), true);
        Check.is("down", server.up(), false);
        server.restart();
        Check.is("the input is empty", Client.of(server, 0, "ann").stat(0), "/ 80.0.0 800001fd 0 0 ann ann ann");
    }

    private static void everyKindAfterRestart() {
        // A write of 26 bytes is closed after three writes; the message is gone, what it does is not.
        TreeServer server = new TreeServer();
        Client ann = Client.of(server, 0, "ann");
        ann.createAt(1, "f", 0x1FF, 2);
        server.clock(11);
        server.cut(3);
        Check.is("write", ann.write(1, 2, "abc"), "none");
        server.clock(12);
        server.restart();
        ann = Client.of(server, 0, "ann");
        ann.walk(0, 1, "f");
        ann.open(1, 2);
        Check.is("written", ann.read(1, 0, 99), "read \u0000\u0000abc");
        Check.is("written", ann.stat(1), "f 0.1.1 1fd 11 5 ann ann ann");

        server.cut(2);
        Check.is("remove", ann.remove(1), "none");
        Check.is("nodes", server.nodes(), 1);
        server.restart();
        Check.is("nodes", server.nodes(), 0);

        ann = Client.of(server, 0, "ann");
        ann.createAt(1, "g", 0x1FF, 2);
        ann.write(1, 0, "abc");
        ann.walk(0, 2, "g");
        server.cut(2);
        Check.is("open", ann.open(2, 0x10), "none");
        server.restart();
        ann = Client.of(server, 0, "ann");
        Check.is("emptied", ann.look("g"), "g 0.2.2 1fd 12 0 ann ann ann");

        ann.walk(0, 1, "g");
        server.cut(6);
        server.clock(13);
        Check.is("alter", ann.alter(1, new Alteration().name("hh").mode(1).mtime(2).length(3).group("ann")), "none");
        server.clock(14);
        server.restart();
        ann = Client.of(server, 0, "ann");
        Check.is("altered", ann.look("hh"), "hh 0.3.2 1 2 3 ann ann ann");
        Check.is("root", ann.stat(0), "/ 80.4.0 800001fd 13 0 ann ann ann");
    }

    private static void restartTwice() {
        TreeServer server = new TreeServer();
        Client ann = Client.of(server, 0, "ann");
        server.cut(3);
        ann.create(0, "f", 0x1FF, 0);
        server.restart();
        ann = Client.of(server, 0, "ann");
        server.cut(0);
        ann.create(0, "g", 0x1FF, 0);
        server.restart();
        Check.is("the first change is not done again", server.nodes(), 1);
        Check.is("writes", server.writes(), 3 + 1 + 0 + 1);
    }
}
