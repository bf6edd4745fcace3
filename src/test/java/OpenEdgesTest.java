import java.util.Arrays;

/** The edges of type 112. */
public final class OpenEdgesTest {
    public static void main(String[] args) {
        open();
        otherBits();
        directories();
        rights();
        rightToEmpty();
        removingTheRoot();
        removingWithoutRight();
        exclusive();
        exclusiveOfEveryFid();
        exclusiveOfOneGone();
        notExclusive();
        orderOfErrors();
        refusedStaysShut();
        openWithEachMode();
        toRemove();
        emptied();
        emptiedAgain();
        appendOnly();
        answers();
        Check.end();
    }

    /** ann with her file f of five bytes, at fid 1. */
    private static Client withFile(long perm) {
        Client ann = Client.of("ann");
        ann.createAt(1, "f", perm, 1);
        ann.write(1, 0, "hello");
        ann.clunk(1);
        ann.walk(0, 1, "f");
        return ann;
    }

    private static void open() {
        Check.sentence("112 fid[4] mode[1]: open: \"open\".");
        for (int mode = 0; mode < 4; mode++) {
            Client ann = withFile(0x1FF);
            Check.is("once", ann.open(1, mode), "0.1.1");
            Check.is("twice", ann.open(1, mode), "error open");
            Check.is("ahead of mode", ann.open(1, 0xFF), "error open");
            ann.createAt(2, "g", 0x1FF, mode);
            Check.is("open by being created", ann.open(2, mode), "error open");
        }
        Client ann = withFile(0x1FF);
        ann.open(0, 0);
        Check.is("a directory", ann.open(0, 1), "error open");
    }

    private static void otherBits() {
        Check.sentence("Bits other than 0x53: \"mode\".");
        for (int mode = 0; mode < 256; mode++) {
            Client ann = withFile(0x1FF);
            boolean other = (mode & ~0x53) != 0;
            Check.is("mode " + mode, ann.open(1, mode).equals("error mode"), other);
            Check.is("of a directory", ann.open(0, mode), other ? "error mode" : mode != 0 ? "error dir" : "80.1.0");
        }
    }

    private static void directories() {
        Check.sentence("A directory and mode not 0: \"dir\".");
        for (int mode : new int[] {1, 2, 3, 0x10, 0x13, 0x40, 0x43, 0x50, 0x53}) {
            Client ann = Client.of("ann");
            ann.makeDirectory("d", 0x1FF);
            ann.walk(0, 1, "d");
            Check.is("mode " + mode, ann.open(1, mode), "error dir");
            Check.is("not open", ann.open(1, 0), "80.0.1");
        }
    }

    /** Each mode with each set of three bits for others. */
    private static void rights() {
        Check.sentence("The user may not r (mode & 3 is 0 or 2), w (1 or 2, or with 0x10) or x (3): \"perm\".");
        int[] modes = {0, 1, 2, 3, 0x10, 0x11, 0x12, 0x13};
        int[] needs = {4, 2, 6, 1, 6, 2, 6, 3};
        for (int rights = 0; rights < 8; rights++) {
            for (int i = 0; i < modes.length; i++) {
                Client ann = withFile(0x1FF);
                ann.alter(1, new Alteration().mode(rights));
                ann.attach(2, "cy");
                ann.walk(2, 2, "f");
                boolean may = (rights & needs[i]) == needs[i];
                Check.is("rights " + rights + " with " + modes[i], ann.open(2, modes[i]),
                    !may ? "error perm" : modes[i] < 0x10 ? "0.1.1" : "0.2.1");
                Check.is("content", ann.look("f").contains(may && modes[i] >= 0x10 ? " 0 0 ann" : " 0 5 ann"), true);
            }
        }
    }

    private static void rightToEmpty() {
        Check.sentence("w (1 or 2, or with 0x10)");
        Client ann = withFile(Client.APPEND | 0x1FF);
        ann.alter(1, new Alteration().mode(Client.APPEND | 4));
        Check.is("also of one that is append only", ann.open(1, 0x10), "error perm");
        Check.is("but without", ann.open(1, 0), "40.1.1");
    }

    private static void removingTheRoot() {
        Check.sentence("With 0x40: it is the root, or the user may not w in its directory: \"perm\".");
        Client ann = Client.of("ann");
        Check.is("the root is a directory, and that is ahead", ann.open(0, 0x40), "error dir");
        Check.is("not open", ann.open(0, 0), "80.0.0");
    }

    private static void removingWithoutRight() {
        Check.sentence("With 0x40: it is the root, or the user may not w in its directory: \"perm\".");
        for (int bit = 0; bit < 9; bit++) {
            Client ann = Client.of("ann");
            ann.makeDirectory("d", 0x1FF);
            ann.makeFile("f", 0x1FF, "", "d");
            ann.walk(0, 1, "d", "f");
            ann.alter(1, new Alteration().mode(0x1FF));
            ann.walk(0, 2, "d");
            ann.walk(1, 3);
            ann.attach(4, "cy");
            ann.walk(4, 4, "d", "f");
            ann.alter(2, new Alteration().mode(Client.DIR | 1 << bit));
            Check.is("ann with " + bit, ann.open(1, 0x40), bit % 3 == 1 ? "0.0.2" : "error perm");
            Check.is("cy with " + bit, ann.open(4, 0x40), bit == 1 ? "0.0.2" : "error perm");
            Check.is("without 0x40", ann.open(3, 0), "0.0.2");
        }
    }

    private static void exclusive() {
        Check.sentence("It is exclusive and a fid, of whatever connection, is open at it: \"excl\".");
        Client ann = withFile(Client.EXCL | 0x1FF);
        Client cy = Client.of(ann.server, 1, "cy");
        ann.walk(0, 2, "f");
        cy.walk(0, 1, "f");
        Check.is("the first", ann.open(1, 0), "20.1.1");
        for (int mode = 0; mode < 4; mode++) {
            Check.is("the same connection with " + mode, ann.open(2, mode), "error excl");
        }
        Check.is("the other", cy.open(1, 0), "error excl");
        ann.clunk(1);
        Check.is("when it is released", cy.open(1, 0), "20.1.1");
        Check.is("the other way", ann.open(2, 0), "error excl");
        cy.server.hangup(1);
        Check.is("when it is hung up", ann.open(2, 0), "20.1.1");
    }

    /** Whichever of twelve fids is the open one. */
    private static void exclusiveOfEveryFid() {
        Check.sentence("a fid, of whatever connection, is open at it: \"excl\"");
        for (int connection = 0; connection < 2; connection++) {
            for (int opened = 0; opened < 6; opened++) {
                TreeServer server = new TreeServer();
                Client.of(server, 0, "ann").makeFile("f", Client.EXCL | 0x1FF, "");
                Client[] clients = {Client.of(server, 0, "ann"), Client.of(server, 1, "bob")};
                for (Client client : clients) {
                    for (int fid = 1; fid < 6; fid++) {
                        client.walk(0, fid, "f");
                    }
                    client.walk(0, 0, "f");
                }
                Check.is("the first", clients[connection].open(opened, 0), "20.0.1");
                Check.is("the same connection", clients[connection].open((opened + 1) % 6, 0), "error excl");
                Check.is("the other", clients[1 - connection].open(opened, 0), "error excl");
            }
        }
    }

    private static void exclusiveOfOneGone() {
        Check.sentence("It is exclusive and a fid, of whatever connection, is open at it");
        Client ann = withFile(Client.EXCL | 0x1FF);
        ann.open(1, 0);
        ann.walk(0, 2, "f");
        ann.remove(2);
        ann.makeFile("f", Client.EXCL | 0x1FF, "");
        ann.walk(0, 2, "f");
        Check.is("the fid is open at one that is gone", ann.open(2, 0), "20.0.2");
        ann.walk(0, 3, "f");
        Check.is("now it is open", ann.open(3, 0), "error excl");
    }

    private static void notExclusive() {
        Check.sentence("It is exclusive and a fid, of whatever connection, is open at it");
        for (long perm : new long[] {0x1FF, Client.APPEND | 0x1FF, 0x1B6}) {
            Client ann = withFile(perm);
            ann.walk(0, 2, "f");
            String due = perm == (Client.APPEND | 0x1FF) ? "40.1.1" : "0.1.1";
            Check.is("the first", ann.open(1, 2), due);
            Check.is("the second", ann.open(2, 2), due);
        }
        Client other = withFile(Client.EXCL | 0x1FF);
        other.createAt(2, "g", Client.EXCL | 0x1FF, 0);
        other.open(0, 0);
        Check.is("others are open", other.open(1, 0), "20.1.1");
        Client ann = Client.of("ann");
        ann.makeDirectory("d", Client.EXCL | 0x1FF);
        ann.walk(0, 1, "d");
        ann.walk(0, 2, "d");
        Check.is("a directory", ann.open(1, 0), "a0.0.1");
        Check.is("a directory", ann.open(2, 0), "error excl");
    }

    private static void orderOfErrors() {
        Check.sentence("HANDLING, the first error that applies.");
        Client ann = withFile(Client.EXCL | 0x1FF);
        ann.walk(0, 2, "f");
        ann.open(2, 0);
        ann.attach(3, "cy");
        ann.walk(3, 4, "f");
        Check.is("mode ahead of dir", ann.open(3, 0x04), "error mode");
        Check.is("dir ahead of perm", ann.open(3, 1), "error dir");
        Check.is("dir ahead of perm", ann.open(3, 0x40), "error dir");
        Check.is("perm ahead of excl", ann.open(4, 1), "error perm");
        Check.is("perm of 0x40 ahead of excl", ann.open(4, 0x40), "error perm");
        Check.is("excl", ann.open(4, 0), "error excl");
        Check.is("mode ahead of perm", ann.open(4, 0x09), "error mode");
        Check.is("excl, and nothing is emptied", ann.open(1, 0x10), "error excl");
        Check.is("content", ann.stat(1), "f 20.1.1 200001fd 0 5 ann ann ann");
    }

    private static void refusedStaysShut() {
        Check.sentence("A call that is refused changes nothing.");
        Client ann = withFile(0x1FF);
        int writes = ann.server.writes();
        ann.alter(1, new Alteration().mode(4));
        Check.is("refused", ann.open(1, 0x50), "error perm");
        Check.is("not open", ann.read(1, 0, 9), "error open");
        ann.clunk(1);
        Check.is("not to remove", ann.server.nodes(), 1);
        Check.is("no change but that of the mode", ann.server.writes(), writes + 6);
    }

    private static void openWithEachMode() {
        Check.sentence("Then it is open with mode & 3");
        String[] reads = {"read hello", "error open", "read hello", "read hello"};
        String[] writes = {"error open", "wrote 1", "wrote 1", "error open"};
        for (int mode = 0; mode < 4; mode++) {
            Client ann = withFile(0x1FF);
            ann.open(1, mode);
            Check.is("read with " + mode, ann.read(1, 0, 9), reads[mode]);
            Check.is("write with " + mode, ann.write(1, 0, "x"), writes[mode]);
            ann = withFile(0x1FF);
            ann.open(1, mode | 0x40);
            Check.is("read with 0x40 and " + mode, ann.read(1, 0, 9), reads[mode]);
            Check.is("write with 0x40 and " + mode, ann.write(1, 0, "x"), writes[mode]);
            ann = withFile(0x1FF);
            ann.open(1, mode | 0x10);
            Check.is("read with 0x10 and " + mode, ann.read(1, 0, 9), reads[mode].replace("hello", ""));
            Check.is("write with 0x10 and " + mode, ann.write(1, 0, "x"), writes[mode]);
        }
    }

    private static void toRemove() {
        Check.sentence("to remove if 0x40");
        for (int mode : new int[] {0, 1, 2, 3, 0x10, 0x13, 0x40, 0x41, 0x42, 0x43, 0x50, 0x53}) {
            Client ann = withFile(0x1FF);
            ann.open(1, mode);
            Check.is("there with " + mode, ann.server.nodes(), 1);
            ann.clunk(1);
            Check.is("released with " + mode, ann.server.nodes(), mode >= 0x40 ? 0 : 1);
        }
    }

    private static void emptied() {
        Check.sentence("with 0x10, if it is not append only, a CHANGE: the content is empty");
        for (int mode : new int[] {0x10, 0x11, 0x12, 0x13, 0x50}) {
            Client ann = withFile(0x1FF);
            ann.server.clock(7);
            ann.attach(2, "bob");
            ann.walk(2, 2, "f");
            int writes = ann.server.writes();
            Check.is("open with " + mode, ann.open(2, mode), "0.2.1");
            Check.is("12 bytes", ann.server.writes(), writes + 3);
            Check.is("free", ann.server.free(), 23);
            Check.is("changed", ann.stat(1), "f 0.2.1 1fd 7 0 ann ann bob");
            Check.is("the directory is not", ann.stat(0), "/ 80.1.0 800001fd 0 0 ann ann ann");
        }
    }

    private static void emptiedAgain() {
        Check.sentence("when its content is changed (also to the same)");
        Client ann = Client.of("ann");
        ann.makeFile("f", 0x1FF, "");
        ann.walk(0, 1, "f");
        int writes = ann.server.writes();
        Check.is("an empty one", ann.open(1, 0x10), "0.1.1");
        Check.is("is a change, too", ann.server.writes(), writes + 3);
        ann.createAt(2, "g", 0x1FF, 2);
        ann.write(2, 4, "xyz");
        ann.walk(0, 3, "g");
        ann.open(3, 0x12);
        ann.write(3, 2, "c");
        Check.is("nothing is left of what was", ann.read(3, 0, 9), "read \u0000\u0000c");
    }

    private static void appendOnly() {
        Check.sentence("if it is not append only");
        for (long perm : new long[] {Client.APPEND, Client.APPEND | Client.EXCL, Client.EXCL, 0}) {
            Client ann = withFile(perm | 0x1FF);
            int writes = ann.server.writes();
            ann.open(1, 0x12);
            boolean stays = (perm & Client.APPEND) != 0;
            Check.is("content of " + perm, ann.read(1, 0, 9), stays ? "read hello" : "read ");
            Check.is("writes", ann.server.writes(), writes + (stays ? 0 : 3));
        }
    }

    private static void answers() {
        Check.sentence("Answer: qid, 0[4].");
        Client ann = withFile(0x600001FFL);
        byte[] answer = ann.ask(112, 3, new Bytes().number(1, 4).number(0x13, 1).all());
        Check.is("answer", Arrays.toString(answer), Arrays.toString(new Bytes().number(24, 4)
            .number(113, 1).number(3, 2).number(0x60, 1).number(1, 4).number(1, 8).number(0, 4).all()));
    }
}
