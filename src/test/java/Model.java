import java.util.ArrayList;
import java.util.Arrays;
import java.util.List;
import java.util.TreeMap;

/**
 * The document once more, written with the whole Java library and another build inside: errors and crashes are
 * exceptions, nodes are never used again, a change is a Runnable. WildTest holds the two against each other.
 */
final class Model {
    private static final List<String> PEOPLE = List.of("ann", "bob", "cy");

    private static final class Fault extends RuntimeException {
        private static final long serialVersionUID = 1;

        Fault(String name) {
            super(name);
        }
    }

    private static final class Crash extends RuntimeException {
        private static final long serialVersionUID = 1;
    }

    private static final class Item {
        long path;
        int version;
        int mode;
        int mtime;
        String owner = "ann";
        String group = "ann";
        String changer = "ann";
        String name = "/";
        String content = "";
        Item parent;
        boolean alive = true;
        final List<Item> entries = new ArrayList<>();

        boolean dir() {
            return mode < 0;
        }

        boolean may(String user, char right) {
            int bit = right == 'r' ? 4 : right == 'w' ? 2 : 1;
            boolean inGroup = user.equals(group) || group.equals("ann") && user.equals("bob");
            return (mode & bit) != 0 || inGroup && (mode & bit * 8) != 0
                || user.equals(owner) && (mode & bit * 64) != 0;
        }

        Item child(String wanted) {
            return entries.stream().filter(e -> e.name.equals(wanted)).findFirst().orElse(null);
        }

        int blocks() {
            return dir() ? (entries.size() + 3) / 4 : (content.length() + 15) / 16;
        }

        void changes(String user, int time) {
            version++;
            mtime = time;
            changer = user;
        }

        byte[] qid() {
            return new Bytes().number(mode >>> 24, 1).number(version, 4).number(path, 8).all();
        }

        byte[] stat() {
            byte[] behind = new Bytes().number(0, 2).number(0, 4).raw(qid()).number(mode, 4).number(mtime, 4)
                .number(mtime, 4).number(dir() ? 0 : content.length(), 8)
                .text(name).text(owner).text(group).text(changer).all();
            return new Bytes().number(behind.length, 2).raw(behind).all();
        }
    }

    private static final class Handle {
        Item item;
        String user;
        int open = -1;
        boolean removes;
        Long next;
        long last = -1;
    }

    private static final class Wire {
        String in = "";
        String out = "";
        int msize = 128;
        boolean agreed;
        boolean broken;
        final TreeMap<Long, Handle> fids = new TreeMap<>();

        void clear() {
            in = "";
            out = "";
            msize = 128;
            agreed = false;
            broken = false;
            fids.clear();
        }
    }

    private final Item root = new Item();
    private final List<Item> items = new ArrayList<>();
    private final Wire[] wires = {new Wire(), new Wire()};
    private long paths = 0;
    private int clock;
    private int cut = -1;
    private int writes;
    private boolean up = true;
    private Runnable unfinished;

    Model() {
        root.mode = 0x800001FD;
    }

    // ---- the face

    boolean feed(int connection, long bytes, int n) {
        if (connection < 0 || connection > 1 || n < 1 || n > 8 || !up) {
            return false;
        }
        Wire wire = wires[connection];
        if (wire.broken || wire.in.length() + n > 160) {
            return false;
        }
        wire.in += text(new Bytes().number(bytes, n).all());
        pump(wire);
        return true;
    }

    int waiting(int connection) {
        return connection < 0 || connection > 1 ? -1 : wires[connection].out.length();
    }

    long take(int connection) {
        if (connection < 0 || connection > 1) {
            return 0;
        }
        Wire wire = wires[connection];
        int n = Math.min(8, wire.out.length());
        long taken = Bytes.numberIn(bytes(wire.out), 0, n);
        wire.out = wire.out.substring(n);
        pump(wire);
        return taken;
    }

    boolean hangup(int connection) {
        if (connection < 0 || connection > 1 || !up) {
            return false;
        }
        try {
            releaseAll(wires[connection]);
        } catch (Crash crash) {
            return true;
        }
        wires[connection].clear();
        return true;
    }

    int status(int connection) {
        if (connection < 0 || connection > 1) {
            return -1;
        }
        return wires[connection].broken ? 2 : wires[connection].agreed ? 1 : 0;
    }

    int fids(int connection) {
        return connection < 0 || connection > 1 ? -1 : wires[connection].fids.size();
    }

    void clock(int time) {
        clock = time;
    }

    boolean cut(int k) {
        if (k < 0 || !up) {
            return false;
        }
        cut = k;
        return true;
    }

    boolean restart() {
        if (up) {
            return false;
        }
        up = true;
        writes++;
        if (unfinished != null) {
            unfinished.run();
        }
        unfinished = null;
        return true;
    }

    boolean up() {
        return up;
    }

    int nodes() {
        return items.size();
    }

    int free() {
        return 24 - root.blocks() - items.stream().mapToInt(Item::blocks).sum();
    }

    int writes() {
        return writes;
    }

    // ---- what a test may look at, to ask for something sensible

    /** The fids of a connection that are open (or not), at directories (or files). */
    List<Long> fidsThatAre(int connection, boolean open, boolean directory) {
        List<Long> found = new ArrayList<>();
        wires[connection].fids.forEach((number, handle) -> {
            if (handle.open >= 0 == open && handle.item.dir() == directory) {
                found.add(number);
            }
        });
        return found;
    }

    List<String> namesBelow(int connection, long fid) {
        Handle handle = wires[connection].fids.get(fid);
        List<String> names = new ArrayList<>();
        if (handle != null) {
            handle.item.entries.forEach(entry -> names.add(entry.name));
        }
        return names;
    }

    /** The offset that goes on with a fid's latest reading. */
    long nextOffset(int connection, long fid) {
        Handle handle = wires[connection].fids.get(fid);
        return handle == null || handle.next == null ? 0 : handle.next;
    }

    // ---- messages

    private static String text(byte[] bytes) {
        return Bytes.textIn(bytes, 0, bytes.length);
    }

    private static byte[] bytes(String text) {
        return new Bytes().raw(text).all();
    }

    private void pump(Wire wire) {
        try {
            breakIfBad(wire);
            while (!wire.broken && wire.out.length() <= 128 && wire.in.length() >= 7) {
                int size = (int) Bytes.numberIn(bytes(wire.in), 0, 4);
                if (wire.in.length() < size) {
                    return;
                }
                byte[] message = bytes(wire.in.substring(0, size));
                wire.in = wire.in.substring(size);
                wire.out += text(answer(wire, message));
                breakIfBad(wire);
            }
        } catch (Crash crash) {
            wires[0].clear();
            wires[1].clear();
        }
    }

    private void breakIfBad(Wire wire) {
        if (wire.in.length() < 4) {
            return;
        }
        long size = Bytes.numberIn(bytes(wire.in), 0, 4);
        if (size < 7 || size > wire.msize) {
            releaseAll(wire);
            wire.clear();
            wire.broken = true;
        }
    }

    private byte[] answer(Wire wire, byte[] message) {
        int type = message[4] & 255;
        int tag = (int) Bytes.numberIn(message, 5, 2);
        try {
            byte[] body = Arrays.copyOfRange(message, 7, message.length);
            return Bytes.message(type + 1, tag, handle(wire, type, body));
        } catch (Fault fault) {
            return Bytes.message(107, tag, new Bytes().text(fault.getMessage()).all());
        }
    }

    private static void need(boolean holds, String otherwise) {
        if (!holds) {
            throw new Fault(otherwise);
        }
    }

    /** The parts of a message by a pattern: 1, 2, 4, 8 numbers, s texts, d the rest; otherwise "form". */
    private static List<Object> parts(byte[] body, String pattern) {
        List<Object> parts = new ArrayList<>();
        int at = 0;
        for (char c : pattern.toCharArray()) {
            int n = c == 's' ? 2 : c == 'd' ? 0 : c - '0';
            need(at + n <= body.length, "form");
            if (c == 'd') {
                parts.add(text(Arrays.copyOfRange(body, at, body.length)));
                at = body.length;
            } else if (c == 's') {
                int length = (int) Bytes.numberIn(body, at, 2);
                need(at + 2 + length <= body.length, "form");
                parts.add(Bytes.textIn(body, at + 2, length));
                at += 2 + length;
            } else {
                parts.add(Bytes.numberIn(body, at, n));
                at += n;
            }
        }
        need(at == body.length, "form");
        return parts;
    }

    private static List<Object> partsOf(int type, byte[] body) {
        switch (type) {
            case 100:
                return parts(body, "4s");
            case 102:
                return parts(body, "4ss");
            case 104:
                return parts(body, "44ss");
            case 108:
                return parts(body, "2");
            case 110:
                int n = body.length < 10 ? 5 : (int) Bytes.numberIn(body, 8, 2);
                need(n <= 4, "form");
                return parts(body, "442" + "s".repeat(n));
            case 112:
                return parts(body, "41");
            case 114:
                return parts(body, "4s41");
            case 116:
                return parts(body, "484");
            case 118:
                List<Object> write = parts(body, "484d");
                need((long) write.get(2) == ((String) write.get(3)).length(), "form");
                return write;
            case 120:
            case 122:
            case 124:
                return parts(body, "4");
            case 126:
                List<Object> alter = parts(body, "42" + "2" + "24" + "148" + "4448" + "ssss");
                need((long) alter.get(1) == body.length - 6 && (long) alter.get(2) == body.length - 8, "form");
                return alter;
            default:
                throw new Fault("type");
        }
    }

    private byte[] handle(Wire wire, int type, byte[] body) {
        List<Object> p = partsOf(type, body);
        int size = body.length + 7;
        need(wire.agreed || type == 100, "version");
        if (type == 100) {
            return agree(wire, (long) p.get(0), (String) p.get(1));
        }
        need(type != 102, "auth");
        if (type == 108) {
            return new byte[0];
        }
        long fid = (long) p.get(0);
        Handle handle = wire.fids.get(fid);
        if (type == 104) {
            return attach(wire, fid, (long) p.get(1), (String) p.get(2));
        }
        need(handle != null, "fid");
        if (type == 120) {
            release(wire, fid);
            return new byte[0];
        }
        if (type == 122) {
            wire.fids.remove(fid);
        }
        need(handle.item.alive, "gone");
        switch (type) {
            case 110:
                return walk(wire, handle, fid, (long) p.get(1), p.subList(3, p.size()));
            case 112:
                return open(handle, (int) (long) p.get(1), size);
            case 114:
                return create(handle, (String) p.get(1), (int) (long) p.get(2), (int) (long) p.get(3), size);
            case 116:
                return read(handle, (long) p.get(1), (long) p.get(2), wire.msize - 11);
            case 118:
                return write(handle, (long) p.get(1), (String) p.get(3), size);
            case 122:
                return remove(handle, size);
            case 124:
                byte[] stat = handle.item.stat();
                return new Bytes().number(stat.length, 2).raw(stat).all();
            default:
                return alter(handle, p, size);
        }
    }

    private void change(int size, Runnable deed) {
        int b = (size + 15) / 16;
        int k = cut < 0 ? Integer.MAX_VALUE : cut;
        cut = -1;
        if (k >= b + 2) {
            writes += b + 2;
            deed.run();
            return;
        }
        writes += k;
        up = false;
        unfinished = k == b + 1 ? deed : null;
        wires[0].clear();
        wires[1].clear();
        throw new Crash();
    }

    private void releaseAll(Wire wire) {
        while (!wire.fids.isEmpty()) {
            release(wire, wire.fids.firstKey());
        }
    }

    private void release(Wire wire, long fid) {
        Handle handle = wire.fids.remove(fid);
        Item item = handle.item;
        if (handle.removes && item.alive && item != root && item.entries.isEmpty()
            && item.parent.may(handle.user, 'w')) {
            change(16, removal(item, handle.user));
        }
    }

    private Runnable removal(Item item, String user) {
        int time = clock;
        return () -> {
            item.alive = false;
            item.parent.entries.remove(item);
            items.remove(item);
            item.parent.changes(user, time);
        };
    }

    private byte[] agree(Wire wire, long msize, String version) {
        need(msize >= 96, "msize");
        releaseAll(wire);
        wire.msize = (int) Math.min(128, msize);
        wire.agreed = version.startsWith("9P2000");
        return new Bytes().number(wire.msize, 4).text(wire.agreed ? "9P2000" : "unknown").all();
    }

    private byte[] attach(Wire wire, long fid, long afid, String user) {
        need(!wire.fids.containsKey(fid), "inuse");
        need(wire.fids.size() < 6, "fids");
        need(afid == 0xFFFFFFFFL, "auth");
        need(PEOPLE.contains(user), "user");
        place(wire, fid, root, user);
        return root.qid();
    }

    private static void place(Wire wire, long fid, Item item, String user) {
        Handle handle = new Handle();
        handle.item = item;
        handle.user = user;
        wire.fids.put(fid, handle);
    }

    private byte[] walk(Wire wire, Handle handle, long fid, long newFid, List<Object> names) {
        need(handle.open < 0, "open");
        if (newFid != fid) {
            need(!wire.fids.containsKey(newFid), "inuse");
            need(wire.fids.size() < 6, "fids");
        }
        Bytes qids = new Bytes();
        Item item = handle.item;
        int walked = 0;
        try {
            for (Object name : names) {
                need(item.dir(), "dir");
                need(item.may(handle.user, 'x'), "perm");
                Item next = name.equals("..") ? item == root ? root : item.parent : item.child((String) name);
                need(next != null, "noent");
                item = next;
                qids.raw(item.qid());
                walked++;
            }
            place(wire, newFid, item, handle.user);
        } catch (Fault fault) {
            need(walked > 0, fault.getMessage());
        }
        return new Bytes().number(walked, 2).raw(qids.all()).all();
    }

    private byte[] open(Handle handle, int mode, int size) {
        Item item = handle.item;
        need(handle.open < 0, "open");
        need((mode & ~0x53) == 0, "mode");
        need(!item.dir() || mode == 0, "dir");
        int kind = mode & 3;
        need(kind == 1 || kind == 3 || item.may(handle.user, 'r'), "perm");
        need(kind != 1 && kind != 2 && (mode & 16) == 0 || item.may(handle.user, 'w'), "perm");
        need(kind != 3 || item.may(handle.user, 'x'), "perm");
        need((mode & 64) == 0 || item != root && item.parent.may(handle.user, 'w'), "perm");
        if ((item.mode & 0x20000000) != 0) {
            for (Wire wire : wires) {
                need(wire.fids.values().stream().noneMatch(h -> h.item == item && h.open >= 0), "excl");
            }
        }
        handle.open = kind;
        handle.removes = (mode & 64) != 0;
        if ((mode & 16) != 0 && (item.mode & 0x40000000) == 0) {
            String user = handle.user;
            int time = clock;
            change(size, () -> {
                item.content = "";
                item.changes(user, time);
            });
        }
        return new Bytes().raw(item.qid()).number(0, 4).all();
    }

    private static boolean fits(String name) {
        return name.matches("[!-~&&[^/]]{1,8}") && !name.equals(".") && !name.equals("..");
    }

    private byte[] create(Handle handle, String name, int perm, int mode, int size) {
        Item parent = handle.item;
        String user = handle.user;
        need(handle.open < 0, "open");
        need(parent.dir(), "dir");
        need(fits(name), "name");
        need((perm & ~0xE00001FF) == 0 && (mode & ~0x53) == 0 && (mode == 0 || perm >= 0), "mode");
        need(parent.may(user, 'w'), "perm");
        need(parent.child(name) == null, "exist");
        need(items.size() < 20, "full");
        need(parent.entries.size() % 4 != 0 || free() > 0, "full");
        Item item = new Item();
        int time = clock;
        change(size, () -> {
            paths++;
            item.path = paths;
            item.mode = perm & ((perm < 0 ? 0xFFFFFE00 : 0xFFFFFE49) | parent.mode);
            item.owner = user;
            item.changer = user;
            item.group = parent.group;
            item.mtime = time;
            item.name = name;
            item.parent = parent;
            parent.entries.add(item);
            items.add(item);
            parent.changes(user, time);
        });
        handle.item = item;
        handle.open = mode & 3;
        handle.removes = (mode & 64) != 0;
        return new Bytes().raw(item.qid()).number(0, 4).all();
    }

    private byte[] read(Handle handle, long offset, long count, int room) {
        need(handle.open >= 0 && handle.open != 1, "open");
        int most = (int) Math.min(count, room);
        Item item = handle.item;
        String given = "";
        if (!item.dir()) {
            int length = item.content.length();
            if (Long.compareUnsigned(offset, length) < 0) {
                given = item.content.substring((int) offset, (int) Math.min(length, offset + most));
            }
        } else {
            need(offset == 0 || handle.next != null && handle.next == offset, "offset");
            handle.last = offset == 0 ? -1 : handle.last;
            for (Item entry : item.entries) {
                if (entry.path > handle.last) {
                    String stat = text(entry.stat());
                    if (given.length() + stat.length() > most) {
                        break;
                    }
                    given += stat;
                    handle.last = entry.path;
                }
            }
        }
        handle.next = offset + given.length();
        return new Bytes().number(given.length(), 4).raw(given).all();
    }

    private byte[] write(Handle handle, long offset, String data, int size) {
        need(handle.open == 1 || handle.open == 2, "open");
        Item item = handle.item;
        if (!data.isEmpty()) {
            long at = (item.mode & 0x40000000) != 0 ? item.content.length() : offset;
            need(Long.compareUnsigned(at, 64 - Math.min(64, data.length())) <= 0 && data.length() <= 64, "full");
            String filled = item.content + "\0".repeat(64 - item.content.length());
            int end = (int) at + data.length();
            String content = (filled.substring(0, (int) at) + data + filled.substring(end))
                .substring(0, Math.max(end, item.content.length()));
            need((content.length() + 15) / 16 - item.blocks() <= free(), "full");
            String user = handle.user;
            int time = clock;
            change(size, () -> {
                item.content = content;
                item.changes(user, time);
            });
        }
        return new Bytes().number(data.length(), 4).all();
    }

    private byte[] remove(Handle handle, int size) {
        need(handle.item != root && handle.item.parent.may(handle.user, 'w'), "perm");
        need(handle.item.entries.isEmpty(), "empty");
        change(size, removal(handle.item, handle.user));
        return new byte[0];
    }

    private byte[] alter(Handle handle, List<Object> p, int size) {
        Item item = handle.item;
        String user = handle.user;
        boolean owns = user.equals(item.owner);
        long none = 0xFFFFFFFFL;
        String name = (String) p.get(12);
        String group = (String) p.get(14);
        long length = (long) p.get(11);
        long mode = (long) p.get(8);
        long mtime = (long) p.get(10);
        need((long) p.get(3) == 0xFFFF && (long) p.get(4) == none && (long) p.get(5) == 0xFF
            && (long) p.get(6) == none && (long) p.get(7) == -1 && (long) p.get(9) == none
            && p.get(13).equals("") && p.get(15).equals(""), "stat");
        if (length != -1) {
            need(!item.dir(), "stat");
            need(item.may(user, 'w'), "perm");
            need(Long.compareUnsigned(length, 64) <= 0 && (length + 15) / 16 - item.blocks() <= free(), "full");
        }
        if (mode != none) {
            need(owns, "perm");
            need((mode & 0x1FFFFE00) == 0 && (int) mode < 0 == item.dir(), "mode");
        }
        need(mtime == none || owns, "perm");
        if (!group.isEmpty()) {
            need(PEOPLE.contains(group), "user");
            need(owns && (user.equals(group) || user.equals("bob") && group.equals("ann")), "perm");
        }
        if (!name.isEmpty()) {
            need(item != root, "perm");
            need(fits(name), "name");
            need(item.parent.may(user, 'w'), "perm");
            need(item.parent.child(name) == null || item.name.equals(name), "exist");
        }
        if (length == -1 && mode == none && mtime == none && group.isEmpty() && name.isEmpty()) {
            return new byte[0];
        }
        int time = clock;
        change(size, () -> {
            if (length != -1) {
                item.content = (item.content + "\0".repeat(64)).substring(0, (int) length);
                item.changes(user, time);
            }
            item.mode = mode == none ? item.mode : (int) mode;
            item.group = group.isEmpty() ? item.group : group;
            if (!name.isEmpty()) {
                item.name = name;
                item.parent.changes(user, time);
            }
            item.mtime = mtime == none ? item.mtime : (int) mtime;
        });
        return new byte[0];
    }
}
