import java.util.ArrayList;
import java.util.List;
import java.util.Random;

/** Promises 1 to 14 at once: long wild runs, the same each time, in which every answer is held against the Model's. */
public final class WildTest {
    private static final int RUNS = 8000;
    private static final int CALLS = 512;
    private static final int CALLS_OF_A_STEP = 80;
    private static final String[] NAMES = {"a", "b", "c", "dd", "e", "12345678", "..", "", "."};
    private static final String[] USERS = {"ann", "ann", "bob", "bob", "cy"};

    private final Random random;
    private final int run;
    private final TreeServer server = new TreeServer();
    private final Model model = new Model();
    private int calls;
    private boolean agrees = true;

    // Of a hundred answers so many are left to wait, of a hundred messages so many get a wrong bit.
    private final int left;
    private final int spoilt;

    private WildTest(int run) {
        this.run = run;
        random = new Random(run);
        left = 3 + run % 4 * 25;
        spoilt = 1 + run % 3 * 3;
    }

    public static void main(String[] args) {
        int shown = 0;
        for (int run = 0; run < RUNS && shown < 5; run++) {
            WildTest test = new WildTest(run);
            test.play();
            shown += test.agrees ? 0 : 1;
        }
        Check.end();
    }

    private void play() {
        for (int connection = 0; connection < 2; connection++) {
            send(connection, 100, new Bytes().number(128, 4).text("9P2000").all());
            send(connection, 104, new Bytes().number(0, 4).number(-1, 4).text(pick(USERS)).text("").all());
        }
        while (calls + CALLS_OF_A_STEP <= CALLS && agrees) {
            step();
        }
    }

    private void same(String call, Object got, Object want) {
        calls++;
        if (!want.equals(got)) {
            agrees = false;
        }
        if (agrees || !want.equals(got)) {
            Check.is("run " + run + ", call " + calls + ", " + call, got, want);
        }
    }

    private String pick(String[] texts) {
        return texts[random.nextInt(texts.length)];
    }

    private boolean chance(int percent) {
        return random.nextInt(100) < percent;
    }

    private void step() {
        int connection = random.nextInt(2);
        if (!chance(5)) {
            message(connection);
            drain(connection);
            return;
        }
        int k = random.nextInt(10);
        int any = random.nextInt(5) - 1;
        switch (random.nextInt(10)) {
            case 0:
            case 9:
                same("cut " + k, server.cut(k - 1), model.cut(k - 1));
                break;
            case 1:
                same("restart", server.restart(), model.restart());
                break;
            case 2:
                same("hangup", server.hangup(any), model.hangup(any));
                break;
            case 3:
                server.clock(k);
                model.clock(k);
                calls++;
                break;
            case 4:
                same("feed", server.feed(any, 0x6300000007L, k), model.feed(any, 0x6300000007L, k));
                break;
            case 5:
                same("waiting", server.waiting(any), model.waiting(any));
                break;
            case 6:
                same("take", server.take(any), model.take(any));
                break;
            default:
                look(any);
        }
    }

    private void look(int connection) {
        same("status", server.status(connection), model.status(connection));
        same("fids", server.fids(connection), model.fids(connection));
        same("up", server.up(), model.up());
        same("nodes", server.nodes(), model.nodes());
        same("free", server.free(), model.free());
        same("writes", server.writes(), model.writes());
    }

    private void drain(int connection) {
        if (chance(left)) {
            return;
        }
        same("waiting", server.waiting(connection), model.waiting(connection));
        for (int i = 0; i < 40 && model.waiting(connection) > 0 && agrees; i++) {
            same("take", server.take(connection), model.take(connection));
        }
        if (!model.up() && chance(70)) {
            same("nodes", server.nodes(), model.nodes());
            same("restart", server.restart(), model.restart());
        }
        if (model.up() && (model.status(connection) != 1 || model.fids(connection) == 0)) {
            again(connection);
        }
    }

    // A connection without a version or a fid is of little use for what comes next.
    private void again(int connection) {
        if (model.status(connection) == 2) {
            same("hangup", server.hangup(connection), model.hangup(connection));
        }
        send(connection, 100, new Bytes().number(chance(80) ? 128 : 90 + random.nextInt(40), 4)
            .text(chance(95) ? "9P2000" : "9P").all());
        send(connection, 104, new Bytes().number(random.nextInt(3), 4).number(chance(98) ? -1 : 0, 4)
            .text(pick(USERS)).text("").all());
    }

    private void send(int connection, int type, byte[] body) {
        byte[] message = Bytes.message(type, random.nextInt(65536), body);
        if (chance(spoilt)) {
            message[random.nextInt(message.length)] ^= (byte) (1 << random.nextInt(8));
        }
        for (int at = 0; at < message.length && agrees; at += 8) {
            int n = Math.min(8, message.length - at);
            long bytes = Bytes.numberIn(message, at, n);
            same("feed", server.feed(connection, bytes, n), model.feed(connection, bytes, n));
        }
    }

    /** Mostly a fid of the kind that is asked for; else any one, or none. */
    private long fid(int connection, boolean open, boolean directory) {
        List<Long> wanted = model.fidsThatAre(connection, open, directory);
        if (wanted.isEmpty() || chance(8)) {
            return anyFid(connection);
        }
        return wanted.get(random.nextInt(wanted.size()));
    }

    private long anyFid(int connection) {
        List<Long> all = new ArrayList<>();
        for (int i = 0; i < 4; i++) {
            all.addAll(model.fidsThatAre(connection, i % 2 == 0, i < 2));
        }
        return all.isEmpty() || chance(3) ? newFid() : all.get(random.nextInt(all.size()));
    }

    private long newFid() {
        return chance(20) ? 0xFFFFFFFFL - random.nextInt(3) : random.nextInt(9);
    }

    private void message(int connection) {
        Bytes body = new Bytes();
        int type = new int[] {110, 110, 110, 110, 112, 112, 114, 114, 114, 116, 116, 118, 118, 118, 120, 122, 124,
            126, 126, 120, 104, 108, 102, 100, 0}[random.nextInt(chance(90) ? 20 : 25)];
        boolean directory = chance(30);
        switch (type) {
            case 100:
                body.number(chance(40) ? 128 : 95, 4).text("9P2000");
                break;
            case 102:
                body.number(0, 4).text("ann").text("");
                break;
            case 104:
                body.number(newFid(), 4).number(-1, 4).text(pick(USERS)).text("");
                break;
            case 108:
                body.number(0, 2);
                break;
            case 110:
                walk(body, connection);
                break;
            case 112:
                open(body, connection, directory);
                break;
            case 114:
                create(body, connection);
                break;
            case 116:
                read(body, connection, directory);
                break;
            case 118:
                int count = random.nextInt(chance(60) ? 20 : 80);
                body.number(fid(connection, true, false), 4).number(random.nextInt(chance(80) ? 40 : 70) - 2, 8)
                    .number(count, 4).raw(data(count));
                break;
            case 126:
                byte[] stat = alteration().bytes();
                body.number(anyFid(connection), 4).number(stat.length, 2).raw(stat);
                break;
            default:
                body.number(fid(connection, chance(60), chance(30)), 4);
        }
        send(connection, type, body.all());
    }

    private void walk(Bytes body, int connection) {
        long fid = fid(connection, false, true);
        int names = random.nextInt(chance(95) ? 3 : 6);
        body.number(fid, 4).number(chance(10) ? fid : newFid(), 4).number(names, 2);
        List<String> below = model.namesBelow(connection, fid);
        for (int i = 0; i < names; i++) {
            boolean known = i == 0 && !below.isEmpty() && chance(90);
            body.text(known ? below.get(random.nextInt(below.size())) : pick(NAMES));
        }
    }

    private void open(Bytes body, int connection, boolean directory) {
        body.number(fid(connection, false, directory), 4).number(directory && chance(90) ? 0 : openMode(), 1);
    }

    private int openMode() {
        int mode = chance(97) ? random.nextInt(4) : random.nextInt(256);
        return mode | (chance(20) ? 0x10 : 0) | (chance(20) ? 0x40 : 0);
    }

    private long mode() {
        long kind = chance(35) ? 0x80000000L : 0;
        return kind | (chance(10) ? 0x40000000L : 0) | (chance(20) ? 0x20000000L : 0)
            | (chance(60) ? 0x1FF : random.nextInt(0x200)) | (chance(2) ? 0x200 : 0);
    }

    private void create(Bytes body, int connection) {
        long perm = mode();
        String name = chance(30) ? pick(NAMES) : String.valueOf((char) ('f' + random.nextInt(20)));
        body.number(fid(connection, false, true), 4).text(name)
            .number(perm, 4).number(perm >= 0x80000000L && chance(95) ? 0 : openMode(), 1);
    }

    private void read(Bytes body, int connection, boolean directory) {
        long fid = fid(connection, true, directory);
        long offset = !directory ? random.nextInt(70) - 2 : chance(30) ? 0 : chance(70)
            ? model.nextOffset(connection, fid) : random.nextInt(70);
        body.number(fid, 4).number(offset, 8).number(random.nextInt(140), 4);
    }

    private byte[] data(int count) {
        byte[] data = new byte[count];
        random.nextBytes(data);
        return data;
    }

    private Alteration alteration() {
        Alteration alteration = new Alteration();
        if (chance(30)) {
            alteration.length(random.nextInt(chance(90) ? 65 : 70));
        }
        if (chance(30)) {
            alteration.mode(mode());
        }
        if (chance(20)) {
            alteration.mtime(random.nextInt(100));
        }
        if (chance(20)) {
            alteration.group(chance(95) ? pick(USERS) : "dan");
        }
        if (chance(30)) {
            alteration.name(pick(NAMES));
        }
        if (chance(2)) {
            alteration.qid(0, -1, -1);
        }
        return alteration;
    }
}
