import java.util.Arrays;

/** The edges of type 118. */
public final class WriteEdgesTest {
    private static final String SIXTY_FOUR = "0123456789abcdefghijklmnopqrstuvwxyzABCDEFGHIJKLMNOPQRSTUVWXYZ+-";

    public static void main(String[] args) {
        notOpen();
        countOf0();
        endsBehind64();
        offsetsThatWrapAround();
        appendOnly();
        appendOnlyBehind64();
        blocksDoNotSuffice();
        zeros();
        zerosWhereMoreWas();
        over();
        changes();
        refused();
        writesOfTheLog();
        withoutRight();
        answers();
        Check.end();
    }

    private static Client withFile(long perm) {
        Client ann = Client.of("ann");
        ann.createAt(1, "f", perm, 2);
        return ann;
    }

    private static void notOpen() {
        Check.sentence("not open with 1 or 2: \"open\"");
        for (int mode = -1; mode < 4; mode++) {
            Client ann = Client.of("ann");
            ann.makeFile("f", 0x1FF, "abc");
            ann.walk(0, 1, "f");
            if (mode >= 0) {
                ann.open(1, mode);
            }
            boolean may = mode == 1 || mode == 2;
            Check.is("open with " + mode, ann.write(1, 0, "x"), may ? "wrote 1" : "error open");
            Check.is("ahead of full", ann.write(1, 64, "x"), may ? "error full" : "error open");
            Check.is("no bytes", ann.write(1, 0, ""), may ? "wrote 0" : "error open");
        }
        Client ann = Client.of("ann");
        Check.is("a directory", ann.write(0, 0, "x"), "error open");
        ann.open(0, 0);
        Check.is("an open directory", ann.write(0, 0, ""), "error open");
    }

    private static void countOf0() {
        Check.sentence("If count is not 0");
        Client ann = withFile(0x1FF);
        ann.write(1, 0, "abc");
        ann.server.clock(5);
        int writes = ann.server.writes();
        for (long offset : new long[] {0, 3, 4, 64, 65, Long.MAX_VALUE, Long.MIN_VALUE, -1}) {
            Check.is("no bytes at " + offset, ann.write(1, offset, ""), "wrote 0");
        }
        Check.is("no change", ann.server.writes(), writes);
        Check.is("nor any of the file", ann.stat(1), "f 0.1.1 1fd 0 3 ann ann ann");
        ann.server.cut(0);
        Check.is("no change to be cut", ann.write(1, 0, ""), "wrote 0");
        Check.is("up", ann.server.up(), true);
    }

    private static void endsBehind64() {
        Check.sentence("they would end behind 64");
        for (int count : new int[] {1, 2, 16, 63, 64}) {
            Client ann = withFile(0x1FF);
            String data = SIXTY_FOUR.substring(0, count);
            Check.is(count + " to 65", ann.write(1, 65 - count, data), "error full");
            Check.is("nothing", ann.stat(1), "f 0.0.1 1fd 0 0 ann ann ann");
            Check.is(count + " to 64", ann.write(1, 64 - count, data), "wrote " + count);
            Check.is("64", ann.stat(1), "f 0.1.1 1fd 0 64 ann ann ann");
            Check.is(count + " to 65 again", ann.write(1, 65 - count, data), "error full");
        }
        Client ann = withFile(0x1FF);
        Check.is("65 at 0", ann.write(1, 0, SIXTY_FOUR + "x"), "error full");
        Check.is("105 at 0", ann.write(1, 0, "x".repeat(105)), "error full");
    }

    private static void offsetsThatWrapAround() {
        Check.sentence("they would end behind 64");
        Client ann = withFile(0x1FF);
        for (long offset : new long[] {64, 65, 0x7FFFFFFF, 0x80000000L, 0xFFFFFFFFL, 0x100000000L, Long.MAX_VALUE,
            Long.MAX_VALUE - 1, Long.MIN_VALUE, -1, -2, -3, -64}) {
            Check.is("three at " + offset, ann.write(1, offset, "xyz"), "error full");
        }
        Check.is("nothing", ann.stat(1), "f 0.0.1 1fd 0 0 ann ann ann");
    }

    private static void appendOnly() {
        Check.sentence("or if it is append only to the end of the content");
        Client ann = withFile(Client.APPEND | 0x1FF);
        String due = "";
        long[] offsets = {0, 1, 2, 5, 64, 65, Long.MAX_VALUE, Long.MIN_VALUE, -1};
        for (int i = 0; i < offsets.length; i++) {
            String data = SIXTY_FOUR.substring(i, 2 * i + 1);
            due = due + data;
            Check.is("at " + offsets[i], ann.write(1, offsets[i], data), "wrote " + data.length());
            Check.is("content", ann.read(1, 0, 64), "read " + due);
        }
    }

    private static void appendOnlyBehind64() {
        Check.sentence("they would end behind 64");
        Client ann = withFile(Client.APPEND | 0x1FF);
        ann.write(1, 0, SIXTY_FOUR.substring(1));
        Check.is("63 and 2", ann.write(1, 0, "xy"), "error full");
        Check.is("63 and 1", ann.write(1, 0, "x"), "wrote 1");
        Check.is("64 and 1", ann.write(1, 0, "x"), "error full");
        Check.is("64 and 0", ann.write(1, 0, ""), "wrote 0");
        ann.walk(0, 2, "f");
        ann.alter(2, new Alteration().mode(0x1FF));
        Check.is("when it is not append only any more", ann.write(1, 0, "x"), "wrote 1");
        Check.is("content", ann.read(1, 0, 64), "read x" + SIXTY_FOUR.substring(2) + "x");
    }

    /** Five files of four blocks and the root's two leave two. */
    private static void blocksDoNotSuffice() {
        Check.sentence("or the blocks do not suffice: \"full\"");
        Client ann = Client.of("ann");
        for (int i = 0; i < 5; i++) {
            ann.makeFile("f" + i, 0x1FF, SIXTY_FOUR);
        }
        ann.createAt(1, "g", 0x1FF, 2);
        ann.createAt(2, "h", Client.APPEND | 0x1FF, 2);
        Check.is("free", ann.server.free(), 2);
        Check.is("one of two", ann.write(2, 0, SIXTY_FOUR.substring(48)), "wrote 16");
        Check.is("two of one", ann.write(1, 16, "x"), "error full");
        Check.is("one of one", ann.write(1, 15, "x"), "wrote 1");
        Check.is("free", ann.server.free(), 0);
        Check.is("one of none", ann.write(1, 15, "xy"), "error full");
        Check.is("one of none, appended", ann.write(2, 0, "x"), "error full");
        Check.is("none of none", ann.write(1, 0, SIXTY_FOUR.substring(48)), "wrote 16");
        Check.is("no bytes", ann.write(2, 0, ""), "wrote 0");
        ann.walk(0, 3, "f2");
        ann.open(3, 1);
        Check.is("none of none, in a full one", ann.write(3, 0, SIXTY_FOUR), "wrote 64");
        ann.remove(3);
        Check.is("free", ann.server.free(), 4);
        Check.is("three of four", ann.write(1, 63, "x"), "wrote 1");
        Check.is("free", ann.server.free(), 1);
    }

    private static void zeros() {
        Check.sentence("the content has zeros up to there, if it was shorter");
        Client ann = withFile(0x1FF);
        Check.is("of an empty one", ann.write(1, 3, "x"), "wrote 1");
        Check.is("content", ann.read(1, 0, 64), "read \u0000\u0000\u0000x");
        Check.is("at the end", ann.write(1, 4, "y"), "wrote 1");
        Check.is("content", ann.read(1, 0, 64), "read \u0000\u0000\u0000xy");
        Check.is("one behind the end", ann.write(1, 6, "z"), "wrote 1");
        Check.is("content", ann.read(1, 0, 64), "read \u0000\u0000\u0000xy\u0000z");
        Check.is("at the last", ann.write(1, 63, "!"), "wrote 1");
        Check.is("content", ann.read(1, 5, 64), "read \u0000z" + "\u0000".repeat(56) + "!");
    }

    private static void zerosWhereMoreWas() {
        Check.sentence("the content has zeros up to there, if it was shorter");
        Client ann = withFile(0x1FF);
        ann.write(1, 0, SIXTY_FOUR);
        ann.alter(1, new Alteration().length(2));
        ann.write(1, 5, "x");
        Check.is("cut ahead", ann.read(1, 0, 64), "read 01\u0000\u0000\u0000x");
        ann.write(1, 0, SIXTY_FOUR);
        ann.walk(0, 2, "f");
        ann.open(2, 0x10);
        ann.write(1, 2, "y");
        Check.is("emptied ahead", ann.read(1, 0, 64), "read \u0000\u0000y");
    }

    private static void over() {
        Check.sentence("and the bytes from there on");
        Client ann = withFile(0x1FF);
        ann.write(1, 0, "0123456789");
        Check.is("amid", ann.write(1, 3, "abc"), "wrote 3");
        Check.is("what stands behind stays", ann.read(1, 0, 64), "read 012abc6789");
        Check.is("to the end", ann.write(1, 8, "xy"), "wrote 2");
        Check.is("content", ann.read(1, 0, 64), "read 012abc67xy");
        Check.is("over the end", ann.write(1, 9, "\u0000\u00ff\u0080"), "wrote 3");
        Check.is("content", ann.read(1, 0, 64), "read 012abc67x\u0000\u00ff\u0080");
    }

    private static void changes() {
        Check.sentence("A node CHANGES, when its content is changed (also to the same)");
        Client ann = withFile(0x1FF);
        ann.server.clock(3);
        ann.write(1, 0, "abc");
        Check.is("once", ann.stat(1), "f 0.1.1 1fd 3 3 ann ann ann");
        ann.server.clock(-1);
        ann.attach(2, "bob");
        ann.walk(2, 2, "f");
        ann.open(2, 1);
        ann.write(2, 0, "abc");
        Check.is("to the same", ann.stat(1), "f 0.2.1 1fd 4294967295 3 ann ann bob");
        Check.is("its directory does not", ann.stat(0), "/ 80.1.0 800001fd 0 0 ann ann ann");
    }

    private static void refused() {
        Check.sentence("A call that is refused changes nothing.");
        Client ann = withFile(0x1FF);
        ann.write(1, 0, "abc");
        ann.server.clock(3);
        int writes = ann.server.writes();
        ann.write(1, 60, "xxxxx");
        Check.is("content", ann.read(1, 0, 64), "read abc");
        Check.is("stat", ann.stat(1), "f 0.1.1 1fd 0 3 ann ann ann");
        Check.is("writes", ann.server.writes(), writes);
        Check.is("free", ann.server.free(), 22);
    }

    /** A message of 23 + count bytes. */
    private static void writesOfTheLog() {
        Check.sentence("makes b = (n + 15) / 16 writes to the log");
        for (int count : new int[] {1, 8, 9, 10, 24, 25, 26, 41, 42, 57, 58, 64}) {
            Client ann = withFile(0x1FF);
            int writes = ann.server.writes();
            ann.write(1, 0, SIXTY_FOUR.substring(0, count));
            Check.is("count " + count, ann.server.writes() - writes, (23 + count + 15) / 16 + 2);
        }
    }

    private static void withoutRight() {
        Check.sentence("not open with 1 or 2: \"open\"");
        Client ann = withFile(0x1FF);
        ann.walk(0, 2, "f");
        ann.alter(2, new Alteration().mode(0));
        Check.is("once open, the mode does not count", ann.write(1, 0, "x"), "wrote 1");
        Check.is("nor to read", ann.read(1, 0, 1), "read x");
    }

    private static void answers() {
        Check.sentence("Answer: count[4].");
        for (int count : new int[] {0, 1, 64}) {
            Client ann = withFile(0x1FF);
            byte[] answer = ann.ask(118, 0x8001, new Bytes().number(1, 4).number(0, 8).number(count, 4)
                .raw(SIXTY_FOUR.substring(0, count)).all());
            Check.is("answer", Arrays.toString(answer), Arrays.toString(new Bytes().number(11, 4)
                .number(119, 1).number(0x8001, 2).number(count, 4).all()));
        }
    }
}
