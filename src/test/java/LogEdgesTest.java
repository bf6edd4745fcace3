/** The edges that stand under LOG, and those of promises 8 to 14. */
public final class LogEdgesTest {
    private static final String DATA = "0123456789abcdefghijklmnopqrstuvwxyzABCDEFGHIJKLMNOPQRSTUVWXYZ+-";

    public static void main(String[] args) {
        writesOfACreation();
        writesOfAnAlteration();
        noWritesWithoutAChange();
        everyCutOfACreation();
        everyCutOfAWrite();
        everyCutOfARemoval();
        everyCutOfAnEmptying();
        everyCutOfAnAlteration();
        everyCutOfARelease();
        downWithoutAnswer();
        otherConnection();
        otherConnectionThatIsBroken();
        nothingMoreIsDone();
        fidsToBeReleasedBehind();
        answersOfTheCallThatIsCut();
        cutIsOver();
        cutOfTheNextChangeAlone();
        restartMakesOneWrite();
        clockThatWas();
        pathOfACreation();
        noFidOfACreation();
        clocks();
        clockWhenDown();
        cutsThatAreRefused();
        cutInPlaceOfAnother();
        cutWhenDown();
        restartWhenUp();
        nodesAndFreeWhenDown();
        upOrDown();
        nodesBesidesTheRoot();
        blocksNotTaken();
        Check.end();
    }

    private static void writesOfACreation() {
        Check.sentence("A CHANGE of n bytes, the size of its message");
        for (int length = 1; length <= 8; length++) {
            Client ann = Client.of("ann");
            ann.create(0, "abcdefgh".substring(0, length), 0x1FF, 0);
            Check.is("18 bytes and " + length, ann.server.writes(), (18 + length + 15) / 16 + 2);
        }
    }

    /** A message of 62 bytes and the name: 64 are four writes to the log, 65 are five. */
    private static void writesOfAnAlteration() {
        Check.sentence("makes b = (n + 15) / 16 writes to the log, 1 that closes it, 1 that does it");
        for (int length = 1; length <= 8; length++) {
            Client ann = Client.of("ann");
            ann.createAt(1, "f", 0x1FF, 0);
            int writes = ann.server.writes();
            ann.alter(1, new Alteration().name("abcdefgh".substring(0, length)));
            Check.is("62 bytes and " + length, ann.server.writes() - writes, length <= 2 ? 6 : 7);
        }
    }

    private static void noWritesWithoutAChange() {
        Check.sentence("How many writes were made.");
        Client ann = Client.of("ann");
        ann.createAt(1, "f", Client.APPEND | 0x1FF, 2);
        int writes = ann.server.writes();
        Check.is("writes", writes, 4);
        ann.walk(0, 2, "f");
        ann.open(2, 0x12);
        ann.read(1, 0, 9);
        ann.write(1, 0, "");
        ann.stat(1);
        ann.alter(1, new Alteration());
        ann.create(0, "f", 0, 0);
        ann.clunk(2);
        ann.version(95, "");
        ann.version(128, "9P2000");
        ann.attach(0, "ann");
        ann.remove(0);
        ann.server.hangup(0);
        ann.server.restart();
        Check.is("no more", ann.server.writes(), writes);
    }

    /** One change that is cut off after k writes, for each k. */
    private interface Try {
        String play(Client ann);
    }

    private static final class Kind {
        final String name;
        final int logged;
        final String answer;
        final String before;
        final String after;
        final Try change;

        Kind(String name, int logged, String answer, String before, String after, Try change) {
            this.name = name;
            this.logged = logged;
            this.answer = answer;
            this.before = before;
            this.after = after;
            this.change = change;
        }
    }

    /** ann's file f with content hello, at fid 1 open, at fid 2 not; all at clock 10; the clock is 20 then. */
    private static Client withFile() {
        Client ann = Client.of("ann");
        ann.server.clock(10);
        ann.createAt(1, "f", 0x1FF, 2);
        ann.write(1, 0, "hello");
        ann.walk(0, 2, "f");
        ann.server.clock(20);
        return ann;
    }

    /** What lies in the root, and the root itself. */
    private static String all(Client ann) {
        Client looking = Client.of(ann.server, 1, "ann");
        return looking.look("f") + ", " + looking.look("n") + ", " + looking.look();
    }

    private static void everyCut(Kind kind) {
        for (int k = 0; k <= kind.logged + 3; k++) {
            Client ann = withFile();
            int writes = ann.server.writes();
            Check.is("cut", ann.server.cut(k), true);
            boolean isCut = k < kind.logged + 2;
            String what = kind.name + " cut after " + k + ": ";
            Check.is(what + "answer", kind.change.play(ann), isCut ? "none" : kind.answer);
            Check.is(what + "up", ann.server.up(), !isCut);
            Check.is(what + "writes", ann.server.writes() - writes, Math.min(k, kind.logged + 2));
            ann.server.clock(30);
            Check.is(what + "restart", ann.server.restart(), isCut);
            Check.is(what + "writes after it", ann.server.writes() - writes, isCut ? k + 1 : kind.logged + 2);
            Check.is(what + "tree", all(ann), k < kind.logged + 1 ? kind.before : kind.after);
        }
    }

    private static final String BEFORE =
        "f 0.1.1 1fd 10 5 ann ann ann, error noent, / 80.1.0 800001fd 10 0 ann ann ann";

    private static void everyCutOfACreation() {
        Check.sentence("If a CUT after k writes is set and k is less than b + 2, it is cut off after k writes");
        everyCut(new Kind("114", 2, "0.0.2", BEFORE,
            "f 0.1.1 1fd 10 5 ann ann ann, n 0.0.2 180 20 0 ann ann ann, / 80.2.0 800001fd 20 0 ann ann ann",
            ann -> ann.create(0, "n", 0x180, 2)));
    }

    private static void everyCutOfAWrite() {
        Check.sentence("If a CUT after k writes is set and k is less than b + 2, it is cut off after k writes");
        for (int count : new int[] {1, 9, 10, 25, 26, 64}) {
            int length = Math.max(5, count);
            everyCut(new Kind("118 of " + count, (23 + count + 15) / 16, "wrote " + count, BEFORE,
                "f 0.2.1 1fd 20 " + length + " ann ann ann, error noent, / 80.1.0 800001fd 10 0 ann ann ann",
                ann -> ann.write(1, 0, DATA.substring(0, count))));
        }
    }

    private static void everyCutOfARemoval() {
        Check.sentence("If a CUT after k writes is set and k is less than b + 2, it is cut off after k writes");
        everyCut(new Kind("122", 1, "ok", BEFORE, "error noent, error noent, / 80.2.0 800001fd 20 0 ann ann ann",
            ann -> ann.remove(1)));
    }

    private static void everyCutOfAnEmptying() {
        Check.sentence("If a CUT after k writes is set and k is less than b + 2, it is cut off after k writes");
        everyCut(new Kind("112", 1, "0.2.1", BEFORE,
            "f 0.2.1 1fd 20 0 ann ann ann, error noent, / 80.1.0 800001fd 10 0 ann ann ann",
            ann -> ann.open(2, 0x10)));
    }

    private static void everyCutOfAnAlteration() {
        Check.sentence("If a CUT after k writes is set and k is less than b + 2, it is cut off after k writes");
        everyCut(new Kind("126", 5, "ok", BEFORE,
            "error noent, n 0.2.1 180 7 3 ann ann ann, / 80.2.0 800001fd 20 0 ann ann ann",
            ann -> ann.alter(1, new Alteration().length(3).mode(0x180).mtime(7).group("ann").name("n"))));
        everyCut(new Kind("126 of the mode", 4, "ok", BEFORE,
            "f 0.1.1 180 10 5 ann ann ann, error noent, / 80.1.0 800001fd 10 0 ann ann ann",
            ann -> ann.alter(1, new Alteration().mode(0x180))));
    }

    private static void everyCutOfARelease() {
        Check.sentence("but 16 for one by releasing");
        for (int k = 0; k <= 4; k++) {
            for (int way = 0; way < 4; way++) {
                Client ann = withFile();
                ann.open(2, 0x40);
                ann.server.cut(k);
                int writes = ann.server.writes();
                byte[] message = way == 0 ? Bytes.message(120, 1, new Bytes().number(2, 4).all())
                    : Bytes.message(100, 1, new Bytes().number(128, 4).text("9P2000" + "x".repeat(90)).all());
                boolean answer = way < 2 ? ann.feed(message) : way == 2 ? ann.server.feed(0, 0, 4)
                    : ann.server.hangup(0);
                Check.is("way " + way + " cut after " + k, answer, true);
                Check.is("up", ann.server.up(), k >= 3);
                Check.is("writes", ann.server.writes() - writes, Math.min(k, 3));
                Check.is("broken", ann.server.status(0) == 2, way == 2 && k >= 3);
                Check.is("nodes", ann.server.nodes(), k < 3 ? 1 : 0);
                ann.server.restart();
                Check.is("nodes after it", ann.server.nodes(), k < 2 ? 1 : 0);
            }
        }
    }

    private static void downWithoutAnswer() {
        Check.sentence("the server is DOWN, with no answer: the connections have no fids, empty inputs and outputs, "
            + "no version agreed on, MSIZE 128, are not broken");
        Client ann = Client.of("ann");
        ann.version(96, "9P2000");
        ann.attach(0, "ann");
        ann.feed(Bytes.message(108, 1, new byte[2]));
        ann.server.cut(1);
        Check.is("no answer, nor those ahead of it", ann.create(0, "f", 0x1FF, 0), "none");
        Check.is("down", ann.server.up(), false);
        Check.is("fids", ann.server.fids(0), 0);
        Check.is("output", ann.server.waiting(0), 0);
        Check.is("status", ann.server.status(0), 0);
        ann.server.restart();
        Check.is("MSIZE", ann.send(99, new byte[121]), "error type");
        Check.is("version", ann.flush(1), "error version");
        Check.is("status", ann.server.status(0), 0);
    }

    private static void otherConnection() {
        Check.sentence("the connections have no fids, empty inputs and outputs, no version agreed on, MSIZE 128");
        Client ann = Client.of("ann");
        Client cy = Client.of(ann.server, 1, "cy");
        cy.version(96, "9P2000");
        cy.attach(0, "cy");
        cy.feed(Bytes.message(108, 1, new byte[2]));
        ann.server.feed(1, 9, 4);
        ann.server.cut(0);
        ann.create(0, "f", 0x1FF, 0);
        Check.is("fids", ann.server.fids(1), 0);
        Check.is("output", ann.server.waiting(1), 0);
        Check.is("status", ann.server.status(1), 0);
        ann.server.restart();
        Check.is("input and MSIZE", cy.send(99, new byte[121]), "error type");
        Check.is("version", cy.flush(1), "error version");
    }

    private static void otherConnectionThatIsBroken() {
        Check.sentence("are not broken");
        Client ann = Client.of("ann");
        ann.server.feed(1, 0, 4);
        Check.is("broken", ann.server.status(1), 2);
        ann.server.cut(0);
        ann.create(0, "f", 0x1FF, 0);
        Check.is("not broken", ann.server.status(1), 0);
        ann.server.restart();
        Check.is("it takes input", ann.server.feed(1, 7, 4), true);
    }

    /** Two creations that wait behind much output; the first one is cut off by a take. */
    private static void nothingMoreIsDone() {
        Check.sentence("and nothing more of what was under way is done");
        for (int k = 0; k <= 3; k++) {
            Client ann = Client.of("ann");
            ann.walk(0, 1);
            for (int i = 0; i < 19; i++) {
                ann.feed(Bytes.message(108, i, new byte[2]));
            }
            ann.feed(Bytes.message(114, 1, Client.createBody(0, "a", 0x1FF, 0)));
            ann.feed(Bytes.message(114, 1, Client.createBody(1, "b", 0x1FF, 0)));
            ann.server.cut(k);
            ann.server.take(0);
            Check.is("down", ann.server.up(), false);
            Check.is("writes", ann.server.writes(), k);
            ann.server.restart();
            Check.is("nodes", ann.server.nodes(), k == 3 ? 1 : 0);
            ann.server.take(0);
            Check.is("writes", ann.server.writes(), k + 1);
            Check.is("nodes", ann.server.nodes(), k == 3 ? 1 : 0);
        }
    }

    private static void fidsToBeReleasedBehind() {
        Check.sentence("(Fids that were to be released behind are gone without a CHANGE.");
        for (int k = 0; k < 3; k++) {
            Client ann = Client.of("ann");
            for (int fid = 1; fid < 6; fid++) {
                ann.createAt(fid, "n" + fid, 0x1FF, 0x40);
            }
            int writes = ann.server.writes();
            ann.server.cut(k);
            Check.is("hangup", ann.server.hangup(0), true);
            Check.is("down", ann.server.up(), false);
            Check.is("fids", ann.server.fids(0), 0);
            Check.is("writes", ann.server.writes(), writes + k);
            ann.server.restart();
            Check.is("writes", ann.server.writes(), writes + k + 1);
            Check.is("nodes", ann.server.nodes(), k == 2 ? 4 : 5);
            ann.server.hangup(0);
            Check.is("nodes", ann.server.nodes(), k == 2 ? 4 : 5);
        }
    }

    private static void answersOfTheCallThatIsCut() {
        Check.sentence("feed() and hangup() answer true then, too, take() the bytes that waited ahead.)");
        Client ann = Client.of("ann");
        byte[] create = Bytes.message(114, 1, Client.createBody(0, "abcdef", 0x1FF, 0));
        for (int i = 0; i < 19; i++) {
            ann.feed(Bytes.message(108, 0x4433 + i, new byte[2]));
        }
        ann.feed(create);
        ann.server.cut(0);
        Check.is("take", ann.server.take(0), 0x0744336D00000007L);
        Check.is("down", ann.server.up(), false);
        Check.is("no more", ann.server.take(0), 0L);
        ann.server.restart();

        ann = Client.of(ann.server, 0, "ann");
        ann.server.cut(0);
        for (int at = 0; at < 16; at += 8) {
            Check.is("feed", ann.server.feed(0, Bytes.numberIn(create, at, 8), 8), true);
        }
        Check.is("feed that is cut", ann.server.feed(0, Bytes.numberIn(create, 16, 8), 8), true);
        Check.is("down", ann.server.up(), false);
        Check.is("feed when down", ann.server.feed(0, 7, 1), false);
        ann.server.restart();

        ann = Client.of(ann.server, 0, "ann");
        ann.createAt(1, "f", 0x1FF, 0x40);
        ann.server.cut(0);
        Check.is("hangup that is cut", ann.server.hangup(0), true);
        Check.is("down", ann.server.up(), false);
        Check.is("hangup when down", ann.server.hangup(0), false);
    }

    private static void cutIsOver() {
        Check.sentence("Either way the cut is over.");
        for (int k : new int[] {0, 1, 3, 4, 5, 100, Integer.MAX_VALUE}) {
            Client ann = Client.of("ann");
            ann.server.cut(k);
            Check.is("cut after " + k, ann.create(0, "f", 0x1FF, 0), k < 4 ? "none" : "0.0.1");
            ann.server.restart();
            ann = Client.of(ann.server, 0, "ann");
            Check.is("not the next", ann.create(0, "g", 0x1FF, 0), k < 3 ? "0.0.1" : "0.0.2");
            Check.is("up", ann.server.up(), true);
        }
    }

    private static void cutOfTheNextChangeAlone() {
        Check.sentence("Sets the cut of the next change to k writes");
        Client ann = Client.of("ann");
        ann.createAt(1, "a", 0x1FF, 0x40);
        ann.createAt(2, "b", 0x1FF, 0x40);
        ann.server.cut(3);
        int writes = ann.server.writes();
        ann.server.hangup(0);
        Check.is("three are enough for the first, and the second is not cut", ann.server.nodes(), 0);
        Check.is("writes", ann.server.writes(), writes + 6);
        ann = Client.of(ann.server, 0, "ann");
        ann.server.cut(5);
        ann.flush(1);
        ann.server.hangup(1);
        ann.server.clock(1);
        ann.read(0, 0, 0);
        Check.is("what is no change leaves it", ann.create(0, "12345678", 0x1FF, 0), "0.0.3");
        ann.server.cut(3);
        Check.is("a change of more", ann.write(0, 0, DATA), "error open");
        Check.is("refused, too", ann.alter(0, new Alteration().name("/")), "error name");
        Check.is("and then it is cut", ann.alter(0, new Alteration().mode(0)), "none");
    }

    private static void restartMakesOneWrite() {
        Check.sentence("A RESTART makes 1 write");
        for (int k = 0; k < 4; k++) {
            Client ann = Client.of("ann");
            ann.server.cut(k);
            ann.create(0, "f", 0x1FF, 0);
            Check.is("ahead", ann.server.writes(), k);
            Check.is("restart", ann.server.restart(), true);
            Check.is("behind", ann.server.writes(), k + 1);
            Check.is("up", ann.server.up(), true);
            Check.is("not again", ann.server.restart(), false);
            Check.is("nor a write", ann.server.writes(), k + 1);
        }
    }

    private static void clockThatWas() {
        Check.sentence("it does the change then (at the clock that was");
        Client ann = Client.of("ann");
        ann.server.clock(-5);
        ann.server.cut(3);
        ann.create(0, "f", 0x1FF, 0);
        ann.server.clock(70);
        ann.server.restart();
        ann = Client.of(ann.server, 0, "ann");
        Check.is("it", ann.look("f"), "f 0.0.1 1fd 4294967291 0 ann ann ann");
        Check.is("its directory", ann.stat(0), "/ 80.1.0 800001fd 4294967291 0 ann ann ann");
        ann.createAt(1, "g", 0x1FF, 0);
        Check.is("then the clock is the one set", ann.stat(1), "g 0.0.2 1fd 70 0 ann ann ann");
    }

    private static void pathOfACreation() {
        Check.sentence("a node that is created so has its PATH, but no fid; a PATH of a creation that was cut off "
            + "ahead of that is not used up)");
        Client ann = Client.of("ann");
        int due = 1;
        for (int k = 0; k <= 4; k++) {
            ann.server.cut(k);
            ann.create(0, "n" + k, 0x1FF, 0);
            due += k < 3 ? 0 : 1;
            ann.server.restart();
            ann = Client.of(ann.server, 0, "ann");
            Check.is("after a cut of " + k, ann.createAt(1, "m" + k, 0x1FF, 0), "0.0." + due);
            due++;
        }
        Check.is("created at the restart", ann.look("n3"), "n3 0.0.4 1fd 0 0 ann ann ann");
    }

    private static void noFidOfACreation() {
        Check.sentence("a node that is created so has its PATH, but no fid");
        Client ann = Client.of("ann");
        ann.server.cut(3);
        ann.create(0, "f", 0x1FF, 0x40);
        ann.server.restart();
        Check.is("fids", ann.server.fids(0), 0);
        ann = Client.of(ann.server, 0, "ann");
        ann.server.hangup(0);
        Check.is("nor is it to be removed", ann.server.nodes(), 1);
    }

    private static void clocks() {
        Check.sentence("Sets the clock (any number, also when the server is down; MTIME [4] has its 32 bits).");
        for (int time : new int[] {0, 1, -1, 255, 256, 0x12345678, Integer.MAX_VALUE, Integer.MIN_VALUE}) {
            Client ann = Client.of("ann");
            ann.server.clock(time);
            ann.createAt(1, "f", 0x1FF, 0);
            String mtime = Long.toString(time & 0xFFFFFFFFL);
            Check.is("clock " + time, ann.stat(1), "f 0.0.1 1fd " + mtime + " 0 ann ann ann");
            Check.is("clock " + time, ann.stat(0), "/ 80.1.0 800001fd " + mtime + " 0 ann ann ann");
            ann.server.clock(5);
            Check.is("what was stays", ann.stat(1), "f 0.0.1 1fd " + mtime + " 0 ann ann ann");
        }
    }

    private static void clockWhenDown() {
        Check.sentence("Sets the clock (any number, also when the server is down");
        Client ann = Client.of("ann");
        ann.server.clock(3);
        ann.server.cut(0);
        ann.create(0, "f", 0x1FF, 0);
        ann.server.clock(-8);
        ann.server.restart();
        ann = Client.of(ann.server, 0, "ann");
        ann.createAt(1, "f", 0x1FF, 0);
        Check.is("mtime", ann.stat(1), "f 0.0.1 1fd 4294967288 0 ann ann ann");
    }

    private static void cutsThatAreRefused() {
        Check.sentence("false (refused) if k is less than 0 or the server is down");
        Client ann = Client.of("ann");
        Check.is("-1", ann.server.cut(-1), false);
        Check.is("the least", ann.server.cut(Integer.MIN_VALUE), false);
        Check.is("none was set", ann.createAt(1, "f", 0x1FF, 0), "0.0.1");
        Check.is("0", ann.server.cut(0), true);
        Check.is("-1", ann.server.cut(-1), false);
        Check.is("the one set stays", ann.createAt(2, "g", 0x1FF, 0), "none");
        Check.is("writes", ann.server.writes(), 4);
    }

    private static void cutInPlaceOfAnother() {
        Check.sentence("in place of one that is set: true");
        Client ann = Client.of("ann");
        ann.server.cut(0);
        Check.is("greater", ann.server.cut(4), true);
        Check.is("not cut", ann.createAt(1, "f", 0x1FF, 0), "0.0.1");
        ann.server.cut(4);
        Check.is("less", ann.server.cut(2), true);
        Check.is("cut", ann.createAt(2, "g", 0x1FF, 0), "none");
        Check.is("writes", ann.server.writes(), 6);
    }

    private static void cutWhenDown() {
        Check.sentence("false (refused) if k is less than 0 or the server is down");
        Client ann = Client.of("ann");
        ann.server.cut(0);
        ann.create(0, "f", 0x1FF, 0);
        Check.is("0", ann.server.cut(0), false);
        Check.is("5", ann.server.cut(5), false);
        ann.server.restart();
        ann = Client.of(ann.server, 0, "ann");
        Check.is("none was set", ann.create(0, "f", 0x1FF, 0), "0.0.1");
        Check.is("up", ann.server.up(), true);
    }

    private static void restartWhenUp() {
        Check.sentence("Restarts (with its 1 write in any case): true; false (refused) if the server is up.");
        Client ann = Client.of("ann");
        ann.feed(Bytes.message(108, 1, new byte[2]));
        ann.server.cut(0);
        Check.is("up", ann.server.restart(), false);
        Check.is("writes", ann.server.writes(), 0);
        Check.is("fids", ann.server.fids(0), 1);
        Check.is("status", ann.server.status(0), 1);
        Check.is("waiting", ann.server.waiting(0), 7);
        ann.takeAll();
        Check.is("the cut stays", ann.create(0, "f", 0x1FF, 0), "none");
        Check.is("down", ann.server.restart(), true);
    }

    /** A change whose log is closed is not done until the restart. */
    private static void nodesAndFreeWhenDown() {
        Check.sentence("if the log had been closed (k is b + 1), it does the change then");
        Client ann = Client.of("ann");
        ann.server.cut(3);
        ann.create(0, "f", 0x1FF, 0);
        Check.is("nodes", ann.server.nodes(), 0);
        Check.is("free", ann.server.free(), 24);
        ann.server.restart();
        Check.is("nodes", ann.server.nodes(), 1);
        Check.is("free", ann.server.free(), 23);
        ann = Client.of(ann.server, 0, "ann");
        ann.walk(0, 1, "f");
        ann.open(1, 1);
        ann.server.cut(4);
        ann.write(1, 0, DATA.substring(0, 17));
        Check.is("free", ann.server.free(), 23);
        ann.server.restart();
        Check.is("free", ann.server.free(), 21);
        ann = Client.of(ann.server, 0, "ann");
        ann.walk(0, 1, "f");
        ann.server.cut(2);
        ann.remove(1);
        Check.is("nodes", ann.server.nodes() + ann.server.free(), 22);
        ann.server.restart();
        Check.is("nodes", ann.server.nodes() + ann.server.free(), 24);
    }

    private static void upOrDown() {
        Check.sentence("Whether the server is up.");
        Client ann = Client.of("ann");
        Check.is("at first", ann.server.up(), true);
        ann.server.cut(0);
        Check.is("a cut alone", ann.server.up(), true);
        ann.flush(1);
        Check.is("no change", ann.server.up(), true);
        ann.create(0, "f", 0x1FF, 0);
        Check.is("cut off", ann.server.up(), false);
        ann.server.feed(0, 0, 4);
        ann.server.hangup(0);
        Check.is("calls that are refused", ann.server.up(), false);
        ann.server.restart();
        Check.is("restarted", ann.server.up(), true);
    }

    private static void nodesBesidesTheRoot() {
        Check.sentence("The number of nodes besides the root.");
        Client ann = Client.of("ann");
        Check.is("none", ann.server.nodes(), 0);
        ann.makeDirectory("d", 0x1FF);
        ann.makeFile("f", 0x1FF, "", "d");
        Check.is("those in directories, too", ann.server.nodes(), 2);
        ann.server.hangup(0);
        Check.is("they stay", ann.server.nodes(), 2);
    }

    private static void blocksNotTaken() {
        Check.sentence("The number of blocks that nodes do not take.");
        Client ann = Client.of("ann");
        Check.is("all", ann.server.free(), 24);
        ann.makeDirectory("d", 0x1FF);
        Check.is("one for the root", ann.server.free(), 23);
        ann.makeFile("f", 0x1FF, DATA, "d");
        Check.is("one for d and four for f", ann.server.free(), 18);
        ann.makeFile("g", 0x1FF, "x", "d");
        Check.is("one for g", ann.server.free(), 17);
        ann.server.cut(0);
        ann.walk(0, 1, "d", "f");
        ann.remove(1);
        Check.is("the log takes none", ann.server.free(), 17);
    }
}
