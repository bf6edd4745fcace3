import java.util.Arrays;

/** The edges that stand under BYTES, QID and STAT. */
public final class BytesEdgesTest {
    private static final String NUMBERS =
        "x[1], x[2], x[4], x[8] are numbers of so many bytes, the lowest first, without sign.";

    public static void main(String[] args) {
        everyByteOfAFid();
        everyByteOfANewFid();
        everyByteOfAnMsize();
        everyByteOfAnOffsetAndACount();
        everyByteOfALength();
        texts();
        sizes();
        tags();
        errors();
        qids();
        statOfAFile();
        statOfADirectory();
        statsOfEveryNameLength();
        Check.end();
    }

    /** Fid 0 is there; the ones that are like it in all bytes but one are not. */
    private static void everyByteOfAFid() {
        Check.sentence(NUMBERS);
        for (long other : new long[] {1, 0x80, 0x100, 0x8000, 0x10000, 0x1000000, 0x80000000L}) {
            Client ann = Client.of("ann");
            Check.is("110 " + other, ann.walk(other, 9), "error fid");
            Check.is("112 " + other, ann.open(other, 0), "error fid");
            Check.is("114 " + other, ann.create(other, "f", 0, 0), "error fid");
            Check.is("116 " + other, ann.read(other, 0, 1), "error fid");
            Check.is("118 " + other, ann.write(other, 0, "x"), "error fid");
            Check.is("120 " + other, ann.clunk(other), "error fid");
            Check.is("122 " + other, ann.remove(other), "error fid");
            Check.is("124 " + other, ann.stat(other), "error fid");
            Check.is("126 " + other, ann.alter(other, new Alteration()), "error fid");
            Check.is("104 " + other, ann.attach(other, "ann"), "80.0.0");
            Check.is("two fids", ann.server.fids(0), 2);
            Check.is("the first one is still there", ann.attach(0, "ann"), "error inuse");
        }
    }

    private static void everyByteOfANewFid() {
        Check.sentence(NUMBERS);
        for (long other : new long[] {1, 0x80, 0x100, 0x8000, 0x10000, 0x1000000, 0x80000000L}) {
            Client ann = Client.of("ann");
            Check.is("110 to " + other, ann.walk(0, other), "walked");
            Check.is("two fids", ann.server.fids(0), 2);
            Check.is("120 of 0", ann.clunk(0), "ok");
            Check.is("0 is not there", ann.stat(0), "error fid");
            Check.is("but this one", ann.stat(other), "/ 80.0.0 800001fd 0 0 ann ann ann");
            Check.is("110 from it", ann.walk(other, 0), "walked");
        }
    }

    private static void everyByteOfAnMsize() {
        Check.sentence(NUMBERS);
        for (long msize : new long[] {0x100, 0x8000, 0x10000, 0x1000000, 0x80000000L, 0xFFFFFFFFL}) {
            Check.is("msize " + msize, new Client(new TreeServer(), 0).version(msize, "9P2000"), "128 9P2000");
        }
        Check.is("msize 0x7F", new Client(new TreeServer(), 0).version(0x7F, "9P2000"), "127 9P2000");
    }

    private static void everyByteOfAnOffsetAndACount() {
        Check.sentence(NUMBERS);
        for (int i = 1; i < 8; i++) {
            Client ann = Client.of("ann");
            ann.createAt(1, "f", 0x1FF, 2);
            ann.write(1, 0, "abc");
            Check.is("116 at 256^" + i, ann.read(1, 1L << 8 * i, 9), "read ");
            Check.is("118 at 256^" + i, ann.write(1, 1L << 8 * i, "x"), "error full");
            if (i < 4) {
                Check.is("116 of 256^" + i, ann.read(1, 0, 1L << 8 * i), "read abc");
            }
        }
        Client ann = Client.of("ann");
        ann.createAt(1, "f", 0x1FF, 2);
        ann.write(1, 0, "abc");
        Check.is("116 at 2^64 - 1", ann.read(1, -1, 9), "read ");
        Check.is("116 at 2^63", ann.read(1, Long.MIN_VALUE, 9), "read ");
        Check.is("116 of 2^31", ann.read(1, 1, 0x80000000L), "read bc");
        Check.is("116 of 2^32 - 1", ann.read(1, 2, 0xFFFFFFFFL), "read c");
        Check.is("118 at 2^64 - 1, whose end would wrap around", ann.write(1, -1, "xy"), "error full");
        Check.is("118 at 2^63", ann.write(1, Long.MIN_VALUE, "x"), "error full");
        Check.is("118 at 2^63 - 1", ann.write(1, Long.MAX_VALUE, "x"), "error full");
        Check.is("nothing was written", ann.stat(1), "f 0.1.1 1fd 0 3 ann ann ann");
    }

    private static void everyByteOfALength() {
        Check.sentence(NUMBERS);
        Client ann = Client.of("ann");
        ann.createAt(1, "f", 0x1FF, 2);
        for (int i = 1; i < 8; i++) {
            Check.is("126 to 256^" + i, ann.alter(1, new Alteration().length(1L << 8 * i)), "error full");
        }
        Check.is("126 to 2^63", ann.alter(1, new Alteration().length(Long.MIN_VALUE)), "error full");
        Check.is("126 to 2^64 - 2", ann.alter(1, new Alteration().length(-2)), "error full");
        Check.is("126 to 1", ann.alter(1, new Alteration().length(1)), "ok");
    }

    private static void texts() {
        Check.sentence("A TEXT t[s] is its length [2] and its bytes.");
        Client ann = Client.of("ann");
        Check.is("an empty aname", ann.attach(1, Bytes.NONE4, "ann", ""), "80.0.0");
        Check.is("a long aname", ann.attach(2, Bytes.NONE4, "ann", "x".repeat(106)), "80.0.0");
        Check.is("an empty uname", ann.attach(3, ""), "error user");
        byte[] twoBytes = new Bytes().number(3, 4).number(Bytes.NONE4, 4).number(0x0103, 2).raw("ann").text("").all();
        Check.is("a length of 259 before three bytes", ann.send(104, twoBytes), "error form");
        byte[] highFirst = new Bytes().number(3, 4).number(Bytes.NONE4, 4).number(0x0300, 2).raw("ann").text("").all();
        Check.is("a length with the highest byte first", ann.send(104, highFirst), "error form");
        Check.is("bytes of any value", ann.walk(0, 3, "\u0000\u0080\u00ff"), "error noent");
    }

    private static void sizes() {
        Check.sentence("A MESSAGE is size[4] type[1] tag[2] and what its type says; the size counts all its bytes.");
        TreeServer server = new TreeServer();
        byte[] first = Bytes.message(100, 1, new Bytes().number(100, 4).text("9P2000").all());
        byte[] second = Bytes.message(108, 2, new byte[2]);
        byte[] both = new Bytes().raw(first).raw(second).all();
        for (int i = 0; i < both.length; i++) {
            Check.is("feed", server.feed(0, both[i], 1), true);
            int due = i + 1 < first.length ? 0 : i + 1 < both.length ? 19 : 26;
            Check.is("answers after " + (i + 1), server.waiting(0), due);
        }
        Client least = new Client(new TreeServer(), 0);
        Check.is("seven bytes are a message", least.send(1, new byte[0]), "error type");
    }

    private static void tags() {
        Check.sentence("An answer has the type of the message and 1 more, and its tag;");
        Client ann = Client.of("ann");
        for (int tag : new int[] {0, 1, 0xFF, 0x100, 0x8000, 0xFFFF}) {
            byte[] answer = ann.ask(108, tag, new byte[2]);
            Check.is("tag " + tag, Arrays.toString(answer),
                Arrays.toString(new Bytes().number(7, 4).number(109, 1).number(tag, 2).all()));
        }
    }

    private static void errors() {
        Check.sentence("or it is the ERROR 107: tag[2] ename[s], the name here in quotes.");
        Client ann = Client.of("ann");
        for (int tag : new int[] {0, 1, 0xFF, 0x100, 0x8000, 0xFFFF}) {
            byte[] answer = ann.ask(99, tag, new byte[0]);
            Check.is("tag " + tag, Arrays.toString(answer),
                Arrays.toString(new Bytes().number(13, 4).number(107, 1).number(tag, 2).text("type").all()));
        }
    }

    private static void qids() {
        Check.sentence("QID[13]: the highest byte of the mode [1], version [4], path [8].");
        Client ann = Client.of("ann");
        byte[] root = ann.ask(104, 5, new Bytes().number(7, 4).number(Bytes.NONE4, 4).text("cy").text("").all());
        Check.is("root", Arrays.toString(root), Arrays.toString(new Bytes().number(20, 4).number(105, 1).number(5, 2)
            .number(0x80, 1).number(0, 4).number(0, 8).all()));
        long[] bits = {0, Client.DIR, Client.APPEND, Client.EXCL, 0x60000000L, 0xC0000000L, 0xA0000000L, 0xE0000000L};
        for (int i = 0; i < bits.length; i++) {
            ann.walk(0, 1);
            byte[] made = ann.ask(114, 5, Client.createBody(1, "n" + i, bits[i] | 0x1FF, 0));
            Check.is("made", Arrays.toString(made), Arrays.toString(new Bytes().number(24, 4).number(115, 1)
                .number(5, 2).number(bits[i] >>> 24, 1).number(0, 4).number(i + 1, 8).number(0, 4).all()));
            ann.clunk(1);
        }
    }

    private static void statOfAFile() {
        Check.sentence("STAT: n[2], the number of bytes behind this, then 0[2] 0[4] qid[13] mode[4] mtime[4] mtime[4] "
            + "length[8] name[s] owner[s] group[s] changer[s]");
        TreeServer server = new TreeServer();
        Client bob = Client.of(server, 1, "bob");
        server.clock(0x89ABCDEF);
        bob.createAt(1, "12345678", 0x600001FFL, 2);
        bob.write(1, 0, "0123456789abcdef0123456789abcdef0123456789abcdef0123456789abcdef");
        Client.of(server, 0, "ann").makeFile("f", 0, "");
        byte[] behind = new Bytes().number(0, 2).number(0, 4).number(0x60, 1).number(1, 4).number(1, 8)
            .number(0x600001FDL, 4).number(0x89ABCDEFL, 4).number(0x89ABCDEFL, 4).number(64, 8)
            .text("12345678").text("bob").text("ann").text("bob").all();
        byte[] due = new Bytes().number(9 + 2 + behind.length, 4).number(125, 1).number(0xABCD, 2)
            .number(2 + behind.length, 2).number(behind.length, 2).raw(behind).all();
        Check.is("stat", Arrays.toString(bob.ask(124, 0xABCD, new Bytes().number(1, 4).all())), Arrays.toString(due));
    }

    private static void statOfADirectory() {
        Check.sentence("(length: of the content, 0 for a directory)");
        Client ann = Client.of("ann");
        ann.makeDirectory("d", 0x1FF);
        for (int i = 0; i < 5; i++) {
            ann.makeFile("f" + i, 0x1FF, "0123456789", "d");
        }
        Check.is("five entries", ann.look("d"), "d 80.5.1 800001fd 0 0 ann ann ann");
        Check.is("an empty file", ann.look("d", "f0"), "f0 0.1.2 1fd 0 10 ann ann ann");
        Check.is("the root", ann.look(), "/ 80.1.0 800001fd 0 0 ann ann ann");
    }

    private static void statsOfEveryNameLength() {
        Check.sentence("STAT: n[2], the number of bytes behind this");
        for (int length = 1; length <= 8; length++) {
            Client ann = Client.of("ann");
            ann.createAt(1, "abcdefgh".substring(0, length), 0x1FF, 0);
            byte[] answer = ann.ask(124, 1, new Bytes().number(1, 4).all());
            Check.is("m", Bytes.numberIn(answer, 7, 2), 58L + length);
            Check.is("n", Bytes.numberIn(answer, 9, 2), 56L + length);
            Check.is("size", answer.length, 67 + length);
        }
    }
}
