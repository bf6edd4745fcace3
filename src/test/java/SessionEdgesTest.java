import java.util.Arrays;

/** The edges of HANDLING: the errors of any message, and the types 100, 102, 104 and 108. */
public final class SessionEdgesTest {
    private static final int[] TYPES = {100, 102, 104, 108, 110, 112, 114, 116, 118, 120, 122, 124, 126};

    public static void main(String[] args) {
        types();
        typeIsAheadOfForm();
        everyLengthOfBody();
        textsThatDoNotFill();
        moreThanFourNames();
        countsOfBytesWritten();
        statsThatAreNone();
        formIsAheadOfVersion();
        noVersion();
        noVersionAnyMore();
        noSuchFid();
        goneOnes();
        msizeOf96();
        msizeOf128();
        versionsThatBegin();
        versionsThatDoNot();
        refusedVersion();
        versionReleases();
        versionAnswers();
        auth();
        flush();
        attachInUse();
        attachSeventh();
        attachWithAfid();
        attachOfNoUser();
        attachAtTheRoot();
        Check.end();
    }

    /** A well-formed body of each type, at fid 9. */
    private static byte[] body(int type) {
        Bytes fid = new Bytes().number(9, 4);
        byte[] stat = new Alteration().name("abc").group("cy").bytes();
        switch (type) {
            case 100:
                return new Bytes().number(128, 4).text("9P2000").all();
            case 102:
                return fid.text("ann").text("x").all();
            case 104:
                return fid.number(Bytes.NONE4, 4).text("ann").text("x").all();
            case 108:
                return new byte[2];
            case 110:
                return fid.number(8, 4).number(2, 2).text("a").text("..").all();
            case 112:
                return fid.number(0, 1).all();
            case 114:
                return fid.text("name").number(0, 4).number(0, 1).all();
            case 116:
                return fid.number(0, 8).number(5, 4).all();
            case 118:
                return fid.number(0, 8).number(3, 4).raw("abc").all();
            case 126:
                return fid.number(stat.length, 2).raw(stat).all();
            default:
                return fid.all();
        }
    }

    private static boolean isKnown(int type) {
        return Arrays.stream(TYPES).anyMatch(known -> known == type);
    }

    private static void types() {
        Check.sentence("a type that is not one of these (100, 102, 104, 108, and the even ones 110 to 126): \"type\"");
        for (int type = 0; type < 256; type++) {
            String answer = Client.of("ann").send(type, body(type));
            Check.is("type " + type, answer.equals("error type"), !isKnown(type));
        }
    }

    private static void typeIsAheadOfForm() {
        Check.sentence("HANDLING, the first error that applies.");
        for (int type : new int[] {0, 99, 101, 103, 105, 106, 107, 109, 111, 125, 127, 128, 255}) {
            Check.is("no body, no version: " + type, new Client(new TreeServer(), 0).send(type, new byte[0]),
                "error type");
            Check.is("the longest: " + type, new Client(new TreeServer(), 0).send(type, new byte[121]), "error type");
        }
    }

    private static void everyLengthOfBody() {
        Check.sentence("If the bytes are not just what the type says: \"form\".");
        for (int type : TYPES) {
            byte[] whole = body(type);
            for (int length = 0; length <= 121; length++) {
                String answer = Client.of("ann").send(type, Arrays.copyOf(whole, length));
                Check.is("type " + type + " with " + length, answer.equals("error form"), length != whole.length);
            }
        }
    }

    private static void textsThatDoNotFill() {
        Check.sentence("If the bytes are not just what the type says: \"form\".");
        for (int length : new int[] {0, 5, 7, 0x106, 0x8006, 0xFFFF}) {
            Client client = new Client(new TreeServer(), 0);
            Check.is("100 with " + length, client.send(100, new Bytes().number(128, 4).number(length, 2)
                .raw("9P2000").all()), "error form");
        }
        for (int length : new int[] {0, 2, 4, 0x103, 0xFFFF}) {
            Client ann = Client.of("ann");
            Check.is("102 with " + length, ann.send(102, new Bytes().number(9, 4).number(length, 2).raw("ann")
                .text("x").all()), "error form");
            Check.is("104 with " + length, ann.send(104, new Bytes().number(9, 4).number(Bytes.NONE4, 4)
                .number(length, 2).raw("ann").text("x").all()), "error form");
            Check.is("104 with " + length, ann.send(104, new Bytes().number(9, 4).number(Bytes.NONE4, 4)
                .text("ann").number(length, 2).raw("xyz").all()), "error form");
            Check.is("110 with " + length, ann.send(110, new Bytes().number(0, 4).number(9, 4).number(1, 2)
                .number(length, 2).raw("xyz").all()), "error form");
            Check.is("114 with " + length, ann.send(114, new Bytes().number(0, 4).number(length, 2).raw("xyz")
                .number(0, 5).all()), "error form");
            Check.is("nothing was made", ann.server.nodes() + ann.server.fids(0), 1);
        }
    }

    private static void moreThanFourNames() {
        Check.sentence("n[2] and n (at most 4, else \"form\") names [s]");
        for (int n = 0; n <= 8; n++) {
            Client ann = Client.of("ann");
            String[] names = new String[n];
            Arrays.fill(names, "..");
            Check.is(n + " names", ann.walk(0, 1, names), n > 4 ? "error form" : "walked" + " 80.0.0".repeat(n));
            Check.is("once more", ann.walk(0, 2, names), n > 4 ? "error form" : "walked" + " 80.0.0".repeat(n));
            Check.is("fids", ann.server.fids(0), n > 4 ? 1 : 3);
        }
        for (int n : new int[] {0, 2, 3, 5, 0x100, 0x101, 0x8001, 0xFFFF}) {
            Client ann = Client.of("ann");
            ann.walk(0, 1, "..");
            Check.is("one name, told as " + n, ann.send(110, new Bytes().number(0, 4).number(2, 4).number(n, 2)
                .text("..").all()), "error form");
        }
        Check.is("five empty ones", Client.of("ann").walk(0, 1, "", "", "", "", ""), "error form");
    }

    private static void countsOfBytesWritten() {
        Check.sentence("118 fid[4] offset[8] count[4] and count bytes");
        for (long count : new long[] {0, 2, 4, 0x103, 0x10003, 0x1000003, 0x80000003L, 0xFFFFFFFFL}) {
            Client ann = Client.of("ann");
            ann.createAt(1, "f", 0x1FF, 2);
            Check.is("three bytes, told as " + count, ann.send(118, new Bytes().number(1, 4).number(0, 8)
                .number(count, 4).raw("abc").all()), "error form");
            Check.is("nothing was written", ann.read(1, 0, 9), "read ");
        }
        Client ann = Client.of("ann");
        ann.createAt(1, "f", 0x1FF, 2);
        Check.is("no bytes", ann.write(1, 0, ""), "wrote 0");
        Check.is("105 bytes are a message of 128", ann.write(1, 0, "x".repeat(105)), "error full");
    }

    private static void statsThatAreNone() {
        Check.sentence("126 fid[4] m[2] and m bytes, which must be one stat (else \"form\")");
        byte[] stat = new Alteration().mtime(5).name("abc").bytes();
        Client ann = Client.of("ann");
        ann.createAt(1, "f", 0x1FF, 2);
        Check.is("one", sendStat(ann, 1, stat.length, stat), "ok");
        for (int m : new int[] {0, stat.length - 1, stat.length + 1, stat.length + 0x100, stat.length + 0x8000}) {
            Check.is("m " + m, sendStat(ann, 1, m, stat), "error form");
        }
        for (int n : new int[] {0, stat.length - 3, stat.length - 1, stat.length, stat.length - 2 + 0x100}) {
            byte[] other = new Bytes().number(n, 2).raw(Arrays.copyOfRange(stat, 2, stat.length)).all();
            Check.is("n " + n, sendStat(ann, 1, stat.length, other), "error form");
        }
        ann = Client.of("ann");
        Check.is("nothing", sendStat(ann, 0, 0, new byte[0]), "error form");
        byte[] two = new Bytes().raw(new Alteration().bytes()).raw(new Alteration().bytes()).all();
        Check.is("two", sendStat(ann, 0, two.length, two), "error form");
        for (int text = 0; text < 4; text++) {
            byte[] longer = new Alteration().bytes();
            longer[41 + 2 * text]++;
            Check.is("text " + text + " is too long", sendStat(ann, 0, longer.length, longer), "error form");
            byte[] higher = new Alteration().bytes();
            higher[42 + 2 * text]++;
            Check.is("text " + text + " is much too long", sendStat(ann, 0, higher.length, higher), "error form");
            byte[] shorter = new Alteration().name("n").owner("o").group("g").changer("c").bytes();
            shorter[41 + 3 * text]--;
            Check.is("text " + text + " is too short", sendStat(ann, 0, shorter.length, shorter), "error form");
        }
        byte[] least = new Alteration().bytes();
        Check.is("the least one", sendStat(ann, 0, least.length, least), "ok");
    }

    private static String sendStat(Client client, long fid, int m, byte[] stat) {
        return client.send(126, new Bytes().number(fid, 4).number(m, 2).raw(stat).all());
    }

    private static void formIsAheadOfVersion() {
        Check.sentence("HANDLING, the first error that applies.");
        for (int type : TYPES) {
            Client client = new Client(new TreeServer(), 0);
            Check.is("type " + type, client.send(type, new byte[1]), "error form");
        }
        Client client = new Client(new TreeServer(), 0);
        Check.is("five names", client.walk(0, 1, "", "", "", "", ""), "error form");
        Check.is("no stat", client.send(126, new Bytes().number(0, 4).number(0, 2).all()), "error form");
    }

    private static void noVersion() {
        Check.sentence("If no version is agreed on and it is none of type 100: \"version\".");
        for (int type : TYPES) {
            Client client = new Client(new TreeServer(), 1);
            Check.is("type " + type, client.send(type, body(type)), type == 100 ? "128 9P2000" : "error version");
            Check.is("the other connection is not asked", Client.of(client.server, 0, "ann").flush(1), "ok");
        }
    }

    private static void noVersionAnyMore() {
        Check.sentence("If no version is agreed on and it is none of type 100: \"version\".");
        for (int type : TYPES) {
            if (type != 100) {
                Client client = Client.of("ann");
                client.version(128, "9P1999");
                Check.is("unknown, type " + type, client.send(type, body(type)), "error version");
                client = Client.of("ann");
                client.server.hangup(0);
                Check.is("hung up, type " + type, client.send(type, body(type)), "error version");
                client = Client.of("ann");
                client.server.cut(0);
                client.create(0, "f", 0, 0);
                client.server.restart();
                Check.is("restarted, type " + type, client.send(type, body(type)), "error version");
            }
        }
    }

    private static void noSuchFid() {
        Check.sentence("For types 112 to 126: no such fid: \"fid\".");
        for (int type : TYPES) {
            if (type >= 110) {
                TreeServer server = new TreeServer();
                Client.of(server, 1, "ann").attach(9, "ann");
                Check.is("type " + type, Client.of(server, 0, "ann").send(type, body(type)), "error fid");
                Check.is("fids", server.fids(0), 1);
                Check.is("those of the other connection", server.fids(1), 2);
            }
        }
    }

    private static void goneOnes() {
        Check.sentence("For 112 to 118, 124, 126: it is gone: \"gone\".");
        for (int type : TYPES) {
            if (type >= 110) {
                Client ann = Client.of("ann");
                ann.createAt(1, "f", 0x1FF, 0);
                ann.walk(0, 9, "f");
                ann.remove(1);
                String due = type == 120 ? "ok" : "error gone";
                Check.is("type " + type, ann.send(type, body(type)), due);
                Check.is("fids", ann.server.fids(0), type == 120 || type == 122 ? 1 : 2);
            }
        }
    }

    private static void msizeOf96() {
        Check.sentence("msize less than 96: \"msize\"");
        for (int msize : new int[] {0, 1, 94, 95, 96, 97}) {
            Client client = new Client(new TreeServer(), 0);
            Check.is("msize " + msize, client.version(msize, "9P2000"), msize < 96 ? "error msize" : msize + " 9P2000");
            Check.is("status", client.server.status(0), msize < 96 ? 0 : 1);
        }
        Check.is("ahead of the version", new Client(new TreeServer(), 0).version(95, ""), "error msize");
    }

    private static void msizeOf128() {
        Check.sentence("MSIZE is msize, but at most 128");
        for (long msize : new long[] {96, 100, 127, 128, 129, 256, 0x7FFFFFFF, 0x80000000L, 0xFFFFFFFFL}) {
            Client client = new Client(new TreeServer(), 0);
            long due = Math.min(msize, 128);
            Check.is("msize " + msize, client.version(msize, "9P2000"), due + " 9P2000");
            client.server.feed(0, due, 4);
            Check.is("MSIZE is " + due, client.server.status(0), 1);
            client.server.hangup(0);
            Check.is("also for one unknown", client.version(msize, "x"), due + " unknown");
            client.server.feed(0, due + 1, 4);
            Check.is("MSIZE is " + due, client.server.status(0), 2);
        }
    }

    private static void versionsThatBegin() {
        Check.sentence("if version begins with 9P2000 (whatever stands behind) it is agreed on");
        for (String behind : new String[] {"", ".", ".u", "0", "\u0000", "\u00ff", "x".repeat(109)}) {
            Client client = new Client(new TreeServer(), 0);
            Check.is("9P2000" + behind, client.version(128, "9P2000" + behind), "128 9P2000");
            Check.is("status", client.server.status(0), 1);
        }
    }

    private static void versionsThatDoNot() {
        Check.sentence("if version begins with 9P2000 (whatever stands behind) it is agreed on, else not");
        for (String version : new String[] {"", "9", "9P200", "9P2001", "9P200\u0000", "8P2000", "9p2000", "9Q2000",
            "9P3000", "9P2100", "9P2010", " 9P2000", "x9P2000", "unknown"}) {
            Client client = new Client(new TreeServer(), 0);
            Check.is("at first: " + version, client.version(128, version), "128 unknown");
            Check.is("status", client.server.status(0), 0);
            client.version(128, "9P2000");
            Check.is("after one agreed on: " + version, client.version(128, version), "128 unknown");
            Check.is("status", client.server.status(0), 0);
        }
    }

    private static void refusedVersion() {
        Check.sentence("msize less than 96: \"msize\". All fids are released by rising number");
        Client ann = Client.of("ann");
        ann.createAt(1, "f", 0x1FF, 0x40);
        Check.is("refused", ann.version(95, "9P2000"), "error msize");
        Check.is("fids", ann.server.fids(0), 2);
        Check.is("nodes", ann.server.nodes(), 1);
        Check.is("status", ann.server.status(0), 1);
        Check.is("MSIZE", ann.send(99, new byte[121]), "error type");
        Check.is("not refused", ann.version(96, "x"), "96 unknown");
        Check.is("fids", ann.server.fids(0), 0);
        Check.is("nodes", ann.server.nodes(), 0);
    }

    private static void versionReleases() {
        Check.sentence("All fids are released by rising number");
        for (int k = 0; k <= 3; k++) {
            Client ann = Client.of("ann");
            ann.createAt(2, "b", 0x1FF, 0x40);
            ann.createAt(1, "a", 0x1FF, 0x40);
            ann.server.cut(k);
            Check.is("k " + k, ann.version(100, "9P2000"), k < 3 ? "none" : "100 9P2000");
            Check.is("up", ann.server.up(), k == 3);
            Check.is("status", ann.server.status(0), k < 3 ? 0 : 1);
            ann.server.restart();
            Check.is("nodes", ann.server.nodes(), k < 2 ? 2 : k < 3 ? 1 : 0);
            ann.server.feed(0, 128, 4);
            Check.is("MSIZE", ann.server.status(0), k < 3 ? 0 : 2);
        }
    }

    private static void auth() {
        Check.sentence("102 afid[4] uname[s] aname[s]: \"auth\".");
        Client ann = Client.of("ann");
        Check.is("empty", ann.auth(0, "", ""), "error auth");
        Check.is("known", ann.auth(5, "ann", ""), "error auth");
        Check.is("unknown", ann.auth(Bytes.NONE4, "dan", "x".repeat(80)), "error auth");
        Check.is("fids", ann.server.fids(0), 1);
    }

    private static void flush() {
        Check.sentence("108 oldtag[2]: nothing to do. Answer: nothing more.");
        Client ann = Client.of("ann");
        for (int tag : new int[] {0, 1, 0x8000, 0xFFFF}) {
            Check.is("108 of " + tag, ann.flush(tag), "ok");
        }
    }

    private static void attachInUse() {
        Check.sentence("the fid is in use: \"inuse\"");
        Client ann = Client.of("ann");
        Check.is("ahead of all", ann.attach(0, 5, "dan", ""), "error inuse");
        for (int fid = 1; fid < 6; fid++) {
            ann.attach(fid, "ann");
        }
        Check.is("ahead of the sixth", ann.attach(5, 5, "dan", ""), "error inuse");
        ann = Client.of("ann");
        ann.createAt(1, "f", 0x1FF, 0);
        ann.walk(0, 2, "f");
        ann.remove(1);
        Check.is("one that is gone is in use", ann.attach(2, "ann"), "error inuse");
        Check.is("one of the other connection is not", Client.of(ann.server, 1, "ann").attach(2, "ann"), "80.2.0");
    }

    private static void attachSeventh() {
        Check.sentence("There are six: \"fids\".");
        Client ann = Client.of("ann");
        for (int fid = 1; fid < 5; fid++) {
            ann.attach(fid, "ann");
        }
        Check.is("there are five", ann.attach(10, 5, "ann", ""), "error auth");
        Check.is("the sixth", ann.attach(5, "ann"), "80.0.0");
        Check.is("ahead of auth and user", ann.attach(6, 5, "dan", ""), "error fids");
        ann.clunk(0);
        Check.is("there are five again", ann.attach(6, "ann"), "80.0.0");
    }

    private static void attachWithAfid() {
        Check.sentence("afid is not 0xFFFFFFFF: \"auth\".");
        Client ann = Client.of("ann");
        for (long afid : new long[] {0, 1, 0xFF, 0xFFFF, 0xFFFFFF, 0x7FFFFFFF, 0xFFFFFFFEL, 0xFFFFFF00L, 0xFEFFFFFFL}) {
            Check.is("afid " + afid, ann.attach(1, afid, "ann", ""), "error auth");
        }
        Check.is("ahead of user", ann.attach(1, 0, "dan", ""), "error auth");
        Check.is("afid 0xFFFFFFFF", ann.attach(1, 0xFFFFFFFFL, "ann", ""), "80.0.0");
    }

    private static void attachOfNoUser() {
        Check.sentence("No such user: \"user\".");
        for (String user : new String[] {"", "a", "an", "anna", "Ann", "ANN", "bo", "bobb", "c", "cyy", "dan", "nn",
            "\u0000", "ann\u0000", "cy "}) {
            Client ann = Client.of("ann");
            Check.is("user " + user, ann.attach(1, user), "error user");
            Check.is("fids", ann.server.fids(0), 1);
        }
        for (String user : new String[] {"ann", "bob", "cy"}) {
            Check.is("user " + user, Client.of("ann").attach(1, user), "80.0.0");
        }
    }

    private static void attachAtTheRoot() {
        Check.sentence("The fid is at the root, for that user. Answer: qid.");
        Client ann = Client.of("ann");
        ann.makeDirectory("tree", 0x1FF);
        Check.is("whatever aname says", ann.attach(0xFFFFFFFFL, Bytes.NONE4, "cy", "tree"), "80.1.0");
        Check.is("the root", ann.stat(0xFFFFFFFFL), "/ 80.1.0 800001fd 0 0 ann ann ann");
        Check.is("for cy", ann.create(0xFFFFFFFFL, "f", 0, 0), "error perm");
        Check.is("not open", ann.read(0xFFFFFFFFL, 0, 1), "error open");
    }

    private static void versionAnswers() {
        Check.sentence("Answer: MSIZE[4] and \"9P2000\"[s] or \"unknown\"[s].");
        Client client = new Client(new TreeServer(), 0);
        byte[] known = client.ask(100, 0xFFFF, new Bytes().number(0x80000060L, 4).text("9P2000.u").all());
        Check.is("9P2000", Arrays.toString(known), Arrays.toString(new Bytes().number(19, 4).number(101, 1)
            .number(0xFFFF, 2).number(128, 4).text("9P2000").all()));
        byte[] unknown = client.ask(100, 0, new Bytes().number(96, 4).text("").all());
        Check.is("unknown", Arrays.toString(unknown), Arrays.toString(new Bytes().number(20, 4).number(101, 1)
            .number(0, 2).number(96, 4).text("unknown").all()));
    }
}
