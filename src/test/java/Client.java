import java.util.Map;
import java.util.WeakHashMap;

/**
 * A user of one connection: sends a message, takes the answer, and tells it as a text:
 * "error name", "none" (no answer), or the parts of the answer, one blank between them.
 */
final class Client {
    static final long DIR = 0x80000000L;
    static final long APPEND = 0x40000000L;
    static final long EXCL = 0x20000000L;

    /** Of a fid that lives only as long as the method that makes it. */
    private static final long PASSING = 0xFFFFFFFEL;

    // What an object answers after its 512th call is free, so no test may ask for more.
    private static final int MOST_CALLS = 512;
    private static final Map<TreeServer, Integer> CALLS = new WeakHashMap<>();

    final TreeServer server;
    final int connection;
    private int tag = 0x1234;

    Client(TreeServer server, int connection) {
        this.server = server;
        this.connection = connection;
    }

    /** A client that has agreed on the version and has fid 0 at the root for a user. */
    static Client of(TreeServer server, int connection, String user) {
        Client client = new Client(server, connection);
        client.version(128, "9P2000");
        client.attach(0, user);
        return client;
    }

    static Client of(String user) {
        return of(new TreeServer(), 0, user);
    }

    // ---- messages

    String version(long msize, String version) {
        return send(100, new Bytes().number(msize, 4).text(version).all());
    }

    String auth(long afid, String user, String tree) {
        return send(102, new Bytes().number(afid, 4).text(user).text(tree).all());
    }

    String attach(long fid, String user) {
        return attach(fid, Bytes.NONE4, user, "");
    }

    String attach(long fid, long afid, String user, String tree) {
        return send(104, new Bytes().number(fid, 4).number(afid, 4).text(user).text(tree).all());
    }

    String flush(int oldTag) {
        return send(108, new Bytes().number(oldTag, 2).all());
    }

    String walk(long fid, long newFid, String... names) {
        return send(110, walkBody(fid, newFid, names));
    }

    private static byte[] walkBody(long fid, long newFid, String... names) {
        Bytes bytes = new Bytes().number(fid, 4).number(newFid, 4).number(names.length, 2);
        for (String name : names) {
            bytes.text(name);
        }
        return bytes.all();
    }

    String open(long fid, int mode) {
        return send(112, new Bytes().number(fid, 4).number(mode, 1).all());
    }

    String create(long fid, String name, long perm, int mode) {
        return send(114, createBody(fid, name, perm, mode));
    }

    static byte[] createBody(long fid, String name, long perm, int mode) {
        return new Bytes().number(fid, 4).text(name).number(perm, 4).number(mode, 1).all();
    }

    /** Walks from fid 0 to a new fid and creates there. */
    String createAt(long fid, String name, long perm, int mode, String... directory) {
        walk(0, fid, directory);
        return create(fid, name, perm, mode);
    }

    String read(long fid, long offset, long count) {
        return send(116, new Bytes().number(fid, 4).number(offset, 8).number(count, 4).all());
    }

    String write(long fid, long offset, String data) {
        return send(118, writeBody(fid, offset, data));
    }

    private static byte[] writeBody(long fid, long offset, String data) {
        return new Bytes().number(fid, 4).number(offset, 8).number(data.length(), 4).raw(data).all();
    }

    String clunk(long fid) {
        return send(120, new Bytes().number(fid, 4).all());
    }

    String remove(long fid) {
        return send(122, new Bytes().number(fid, 4).all());
    }

    String stat(long fid) {
        return send(124, new Bytes().number(fid, 4).all());
    }

    String alter(long fid, Alteration alteration) {
        byte[] stat = alteration.bytes();
        return send(126, new Bytes().number(fid, 4).number(stat.length, 2).raw(stat).all());
    }

    /** Makes a file with a content in a directory that fid 0 leads to, and leaves no fid at it. */
    void makeFile(String name, long perm, String content, String... directory) {
        make(name, perm, content, directory);
    }

    void makeDirectory(String name, long perm, String... directory) {
        make(name, DIR | perm, "", directory);
    }

    // All messages are fed in one go, and the answers taken in one: that takes few of an object's calls.
    private void make(String name, long perm, String content, String... directory) {
        Bytes all = new Bytes().raw(Bytes.message(110, 1, walkBody(0, PASSING, directory)))
            .raw(Bytes.message(114, 2, createBody(PASSING, name, perm, content.isEmpty() ? 0 : 1)));
        if (!content.isEmpty()) {
            all.raw(Bytes.message(118, 3, writeBody(PASSING, 0, content)));
        }
        feed(all.raw(Bytes.message(120, 4, new Bytes().number(PASSING, 4).all())).all());
        takeAll();
    }

    /** The stat of what lies at a place that fid 0 leads to. */
    String look(String... names) {
        String walked = walk(0, PASSING, names);
        if (walked.startsWith("error")) {
            return walked;
        }
        String told = stat(PASSING);
        clunk(PASSING);
        return told;
    }

    // ---- bytes

    String send(int type, byte[] body) {
        tag = (tag * 31 + 7) & 0xFFFF;
        feed(Bytes.message(type, tag, body));
        byte[] answer = takeAll();
        return answer.length == 0 ? "none" : tell(answer, type, tag);
    }

    /** The bytes of the answer to a message. */
    byte[] ask(int type, int newTag, byte[] body) {
        feed(Bytes.message(type, newTag, body));
        return takeAll();
    }

    boolean feed(byte[] bytes) {
        boolean taken = true;
        for (int at = 0; at < bytes.length && taken; at += 8) {
            int n = Math.min(8, bytes.length - at);
            count(1);
            taken = server.feed(connection, Bytes.numberIn(bytes, at, n), n);
        }
        return taken;
    }

    byte[] takeAll() {
        Bytes taken = new Bytes();
        count(1);
        for (int waits = server.waiting(connection); waits > 0; waits = server.waiting(connection)) {
            count(1 + Math.max(1, waits / 8));
            for (int i = 0; i < waits / 8; i++) {
                taken.number(server.take(connection), 8);
            }
            if (waits < 8) {
                taken.number(server.take(connection), waits);
            }
        }
        return taken.all();
    }

    private void count(int calls) {
        if (CALLS.merge(server, calls, Integer::sum) > MOST_CALLS) {
            throw new IllegalStateException("more than 512 calls of one object");
        }
    }

    private static String tell(byte[] answer, int askedType, int tag) {
        int type = answer[4] & 255;
        if (Bytes.numberIn(answer, 0, 4) != answer.length) {
            return "a size that is not that of the answer";
        }
        if (Bytes.numberIn(answer, 5, 2) != tag) {
            return "another tag";
        }
        if (type == 107) {
            return "error " + text(answer, 7, answer.length);
        }
        if (askedType >= 0 && type != askedType + 1) {
            return "another type";
        }
        return tellBody(answer, type);
    }

    private static String tellBody(byte[] answer, int type) {
        switch (type) {
            case 101:
                return Bytes.numberIn(answer, 7, 4) + " " + text(answer, 11, answer.length);
            case 105:
                return answer.length == 20 ? qid(answer, 7) : "a wrong size";
            case 111:
                return qids(answer);
            case 113:
            case 115:
                return answer.length == 24 && Bytes.numberIn(answer, 20, 4) == 0 ? qid(answer, 7) : "a wrong size";
            case 117:
                int count = (int) Bytes.numberIn(answer, 7, 4);
                return answer.length == 11 + count ? "read " + Bytes.textIn(answer, 11, count) : "a wrong count";
            case 119:
                return answer.length == 11 ? "wrote " + Bytes.numberIn(answer, 7, 4) : "a wrong size";
            case 125:
                return Bytes.numberIn(answer, 7, 2) == answer.length - 9 ? statIn(answer, 9) : "a wrong m";
            default:
                return answer.length == 7 ? "ok" : "more than nothing";
        }
    }

    private static String qids(byte[] answer) {
        int count = (int) Bytes.numberIn(answer, 7, 2);
        if (answer.length != 9 + 13 * count) {
            return "a wrong number of qids";
        }
        StringBuilder told = new StringBuilder("walked");
        for (int i = 0; i < count; i++) {
            told.append(' ').append(qid(answer, 9 + 13 * i));
        }
        return told.toString();
    }

    /** A qid: type (in hex), version, path. */
    private static String qid(byte[] bytes, int at) {
        return Long.toHexString(Bytes.numberIn(bytes, at, 1)) + "." + Bytes.numberIn(bytes, at + 1, 4)
            + "." + Bytes.numberIn(bytes, at + 5, 8);
    }

    private static String text(byte[] bytes, int at, int end) {
        int length = (int) Bytes.numberIn(bytes, at, 2);
        return at + 2 + length == end ? Bytes.textIn(bytes, at + 2, length) : "a wrong text";
    }

    /** A stat: name, qid, mode (in hex), mtime, length, owner, group, changer. */
    private static String statIn(byte[] bytes, int at) {
        int end = at + 2 + (int) Bytes.numberIn(bytes, at, 2);
        long mtime = Bytes.numberIn(bytes, at + 29, 4);
        if (Bytes.numberIn(bytes, at + 2, 6) != 0 || Bytes.numberIn(bytes, at + 25, 4) != mtime) {
            return "a stat with wrong fixed parts";
        }
        String[] texts = new String[4];
        int place = at + 41;
        for (int i = 0; i < 4; i++) {
            int length = (int) Bytes.numberIn(bytes, place, 2);
            texts[i] = Bytes.textIn(bytes, place + 2, length);
            place += 2 + length;
        }
        if (place != end) {
            return "a stat with a wrong size";
        }
        return texts[0] + " " + qid(bytes, at + 8) + " " + Long.toHexString(Bytes.numberIn(bytes, at + 21, 4))
            + " " + mtime + " " + Bytes.numberIn(bytes, at + 33, 8)
            + " " + texts[1] + " " + texts[2] + " " + texts[3];
    }

    /** The names in the stats that a reading of a directory gave, as "count: names"; errors as they are. */
    static String names(String reading) {
        if (!reading.startsWith("read ")) {
            return reading;
        }
        byte[] bytes = reading.substring(5).getBytes(java.nio.charset.StandardCharsets.ISO_8859_1);
        StringBuilder told = new StringBuilder(bytes.length + ":");
        int at = 0;
        while (at < bytes.length) {
            told.append(' ').append(statIn(bytes, at).split(" ")[0]);
            at += 2 + (int) Bytes.numberIn(bytes, at, 2);
        }
        return told.toString();
    }
}
