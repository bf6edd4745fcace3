/**
 * A file server on two connections, with a tree of files on a disk whose every change goes through a log.
 * What each call promises stands in the document; the names in the code are those of its terms.
 */
public final class TreeServer {
    private static final int LINKS = 2;
    private static final int FIDS = 6;
    private static final int NODES = 20;
    private static final int BLOCKS = 24;
    private static final int MOST_CONTENT = 64;
    private static final int MOST_NAME = 8;

    private static final int MOST_INPUT = 160;
    private static final int MOST_WAITING = 128;
    private static final int MOST_MSIZE = 128;
    private static final int LEAST_MSIZE = 96;
    private static final int HEAD = 7;
    private static final int READ_HEAD = 11;
    private static final int RELEASE_SIZE = 16;

    private static final int VERSION = 100;
    private static final int AUTH = 102;
    private static final int ATTACH = 104;
    private static final int ERROR = 107;
    private static final int FLUSH = 108;
    private static final int WALK = 110;
    private static final int OPEN = 112;
    private static final int CREATE = 114;
    private static final int READ = 116;
    private static final int WRITE = 118;
    private static final int CLUNK = 120;
    private static final int REMOVE = 122;
    private static final int STAT = 124;
    private static final int ALTER = 126;

    private static final int DIRECTORY = 0x80000000;
    private static final int APPEND_ONLY = 0x40000000;
    private static final int EXCLUSIVE = 0x20000000;
    private static final int MODE_BITS = 0xE00001FF;
    private static final int ROOT_MODE = 0x800001FD;
    private static final int FILE_KEEPS = 0xFFFFFE49;
    private static final int DIRECTORY_KEEPS = 0xFFFFFE00;

    private static final int R = 4;
    private static final int W = 2;
    private static final int X = 1;

    private static final int TO_READ = 0;
    private static final int TO_WRITE = 1;
    private static final int TO_READ_AND_WRITE = 2;
    private static final int TO_EXECUTE = 3;
    private static final int NOT_OPEN = -1;
    private static final int OPEN_KIND = 0x03;
    private static final int OPEN_EMPTIES = 0x10;
    private static final int OPEN_REMOVES = 0x40;
    private static final int OPEN_BITS = 0x53;

    // Where the parts of a message begin that stand at a fixed place.
    private static final int AT_MSIZE = 7;
    private static final int AT_FID = 7;
    private static final int AT_SECOND_FID = 11;
    private static final int AT_NAME_COUNT = 15;
    private static final int AT_OPEN_MODE = 11;
    private static final int AT_OFFSET = 11;
    private static final int AT_COUNT = 19;
    private static final int AT_DATA = 23;
    private static final int AT_STAT_SIZE = 11;
    private static final int AT_STAT = 13;
    private static final int AT_STAT_TYPE = 15;
    private static final int AT_STAT_DEV = 17;
    private static final int AT_STAT_QID = 21;
    private static final int AT_STAT_MODE = 34;
    private static final int AT_STAT_FIRST_MTIME = 38;
    private static final int AT_STAT_MTIME = 42;
    private static final int AT_STAT_LENGTH = 46;

    // Which text of a message is meant; the first one is a name, a user or a version.
    private static final int FIRST_TEXT = 0;
    private static final int OWNER_TEXT = 1;
    private static final int GROUP_TEXT = 2;
    private static final int CHANGER_TEXT = 3;
    private static final int MOST_TEXTS = 4;

    // What a stat takes behind its own size, without the characters of its four texts.
    private static final int BARE_STAT = 47;

    private static final long NO_FID = 0xFFFFFFFFL;
    private static final String PROTOCOL = "9P2000";
    private static final String UPWARD = "..";

    // The answer of a handler that refused nothing.
    private static final String OK = "";

    private static final User[] USERS = User.values();

    private final Tree tree = new Tree();
    private final Log log = new Log();
    private final Change change = new Change();
    private final Message message = new Message();
    private final Answer answer = new Answer();
    private final Link[] links = new Link[LINKS];
    private int now;

    /** The root alone, empty connections, the clock at 0, up, no cut. */
    public TreeServer() {
        for (int i = 0; i < LINKS; i++) {
            links[i] = new Link();
        }
    }

    /** Puts the lowest n bytes of a number behind the input of a connection. */
    public boolean feed(int connection, long bytes, int n) {
        Link link = linkOf(connection);
        if (link == null || !log.running || n < 1 || n > 8 || !link.hasRoomFor(n)) {
            return false;
        }
        link.append(bytes, n);
        serve(link);
        return true;
    }

    /** How many bytes of output wait at a connection. */
    public int waiting(int connection) {
        Link link = linkOf(connection);
        return link == null ? -1 : link.outputLength;
    }

    /** Takes up to eight bytes of the output of a connection. */
    public long take(int connection) {
        Link link = linkOf(connection);
        if (link == null) {
            return 0;
        }
        long taken = link.takeOutput();
        serve(link);
        return taken;
    }

    /** Hangs a connection up. */
    public boolean hangup(int connection) {
        Link link = linkOf(connection);
        if (link == null || !log.running) {
            return false;
        }
        releaseAll(link);
        link.reset();
        return true;
    }

    /** 0 no version agreed on, 1 agreed on, 2 broken. */
    public int status(int connection) {
        Link link = linkOf(connection);
        if (link == null) {
            return -1;
        }
        if (link.broken) {
            return 2;
        }
        return link.agreed ? 1 : 0;
    }

    /** The number of fids of a connection. */
    public int fids(int connection) {
        Link link = linkOf(connection);
        return link == null ? -1 : link.countFids();
    }

    /** Sets the clock. */
    public void clock(int time) {
        now = time;
    }

    /** Sets the cut of the next change to k writes. */
    public boolean cut(int k) {
        if (k < 0 || !log.running) {
            return false;
        }
        log.cutAfter = k;
        return true;
    }

    /** Restarts a server that is down. */
    public boolean restart() {
        if (log.running) {
            return false;
        }
        if (log.closed) {
            change.run(tree);
        }
        log.startAgain();
        return true;
    }

    /** Whether the server is up. */
    public boolean up() {
        return log.running;
    }

    /** The number of nodes besides the root. */
    public int nodes() {
        return tree.count;
    }

    /** The number of blocks that nodes do not take. */
    public int free() {
        return tree.spareBlocks();
    }

    /** How many writes were made. */
    public int writes() {
        return log.made;
    }

    private Link linkOf(int connection) {
        return connection < 0 || connection >= LINKS ? null : links[connection];
    }

    // ---- messages in, answers out

    private void serve(Link link) {
        breakIfMissized(link);
        for (int i = 0; i < MOST_INPUT && link.hasMessageToHandle(); i++) {
            message.takeFrom(link);
            answer.begin(message.type + 1, message.tag);
            String error = firstRefusal(link);
            if (error.isEmpty()) {
                error = message.type < OPEN ? handleSession(link) : handleWithFid(link);
            }
            if (log.running) {
                answer.finish(error, link);
            }
            breakIfMissized(link);
        }
    }

    private void breakIfMissized(Link link) {
        if (!link.isMissized()) {
            return;
        }
        releaseAll(link);
        // A cut while releasing has emptied the connection already, and then it is not broken.
        if (log.running) {
            link.breakOff();
        }
    }

    private String firstRefusal(Link link) {
        if (!message.hasKnownType()) {
            return "type";
        }
        if (!message.isWellFormed()) {
            return "form";
        }
        return link.agreed || message.type == VERSION ? OK : "version";
    }

    private String handleSession(Link link) {
        switch (message.type) {
            case VERSION:
                if (message.number(AT_MSIZE, 4) < LEAST_MSIZE) {
                    return "msize";
                }
                releaseAll(link);
                agree(link);
                return OK;
            case AUTH:
                return "auth";
            case ATTACH:
                return attach(link);
            case WALK:
                return walk(link);
            default:
                return OK;
        }
    }

    private String handleWithFid(Link link) {
        Fid fid = link.find(message.number(AT_FID, 4));
        if (fid == null) {
            return "fid";
        }
        if (message.type == CLUNK) {
            return clunk(fid);
        }
        if (message.type == REMOVE) {
            return remove(fid);
        }
        if (fid.isGone()) {
            return "gone";
        }
        switch (message.type) {
            case OPEN:
                return open(fid);
            case CREATE:
                return create(fid);
            case READ:
                return read(fid, link.msize);
            case WRITE:
                return write(fid);
            case STAT:
                return tell(fid.node);
            default:
                return alter(fid);
        }
    }

    // ---- changes and the log

    private void carryOut(int size) {
        if (log.admits(size)) {
            change.run(tree);
        } else {
            goDown();
        }
    }

    private void goDown() {
        for (int i = 0; i < LINKS; i++) {
            links[i].reset();
        }
    }

    private void releaseAll(Link link) {
        for (int i = 0; i < FIDS; i++) {
            Fid fid = link.lowestFid();
            if (fid == null) {
                return;
            }
            if (stageRelease(fid)) {
                carryOut(RELEASE_SIZE);
            }
        }
    }

    /** Drops the fid; whether its node is to be removed by a change, which then stands ready. */
    private boolean stageRelease(Fid fid) {
        fid.used = false;
        Node node = fid.node;
        if (!fid.removes || fid.isGone() || node.home == null || node.entries > 0 || !node.home.lets(fid.user, W)) {
            return false;
        }
        change.begin(Kind.REMOVE, node, fid.user, now);
        return true;
    }

    // ---- 100 to 110: versions, users, walks

    private void agree(Link link) {
        // A cut while releasing has left nobody to agree with.
        if (!log.running) {
            return;
        }
        link.msize = (int) Math.min(message.number(AT_MSIZE, 4), MOST_MSIZE);
        link.agreed = message.textBegins(FIRST_TEXT, PROTOCOL);
        answer.put(link.msize, 4);
        answer.putText(link.agreed ? PROTOCOL : "unknown");
    }

    private String attach(Link link) {
        long number = message.number(AT_FID, 4);
        if (link.find(number) != null) {
            return "inuse";
        }
        Fid fid = link.spareFid();
        if (fid == null) {
            return "fids";
        }
        if (message.number(AT_SECOND_FID, 4) != NO_FID) {
            return "auth";
        }
        User user = message.userNamed(FIRST_TEXT);
        if (user == null) {
            return "user";
        }
        fid.place(number, tree.root, user);
        answer.putQid(tree.root);
        return OK;
    }

    private String walk(Link link) {
        long number = message.number(AT_FID, 4);
        Fid fid = link.find(number);
        if (fid == null) {
            return "fid";
        }
        if (fid.isGone()) {
            return "gone";
        }
        if (fid.openMode != NOT_OPEN) {
            return "open";
        }
        long newNumber = message.number(AT_SECOND_FID, 4);
        Fid target = fid;
        if (newNumber != number) {
            if (link.find(newNumber) != null) {
                return "inuse";
            }
            target = link.spareFid();
            if (target == null) {
                return "fids";
            }
        }
        return walkNames(fid, target, newNumber);
    }

    private String walkNames(Fid fid, Fid target, long newNumber) {
        User user = fid.user;
        Node node = fid.node;
        int walked = 0;
        String error = OK;
        answer.put(0, 2);
        for (int i = 0; i < message.texts && error.isEmpty(); i++) {
            error = stepRefusal(node, user);
            Node next = error.isEmpty() ? nextNode(node, i) : null;
            if (next != null) {
                node = next;
                answer.putQid(node);
                walked++;
            } else if (error.isEmpty()) {
                error = "noent";
            }
        }
        if (error.isEmpty()) {
            target.place(newNumber, node, user);
        }
        answer.set(HEAD, walked, 2);
        return walked == 0 ? error : OK;
    }

    private static String stepRefusal(Node node, User user) {
        if (!node.isDirectory()) {
            return "dir";
        }
        return node.lets(user, X) ? OK : "perm";
    }

    private Node nextNode(Node directory, int text) {
        if (message.textLength[text] == UPWARD.length() && message.textBegins(text, UPWARD)) {
            return directory.home == null ? directory : directory.home;
        }
        return tree.entry(directory, message, text);
    }

    // ---- 112 to 118: opening, creating, reading, writing

    private String open(Fid fid) {
        int mode = (int) message.number(AT_OPEN_MODE, 1);
        Node node = fid.node;
        if (fid.openMode != NOT_OPEN) {
            return "open";
        }
        if ((mode & ~OPEN_BITS) != 0) {
            return "mode";
        }
        if (node.isDirectory() && mode != 0) {
            return "dir";
        }
        if (!letsOpen(node, fid.user, mode)) {
            return "perm";
        }
        if ((mode & OPEN_REMOVES) != 0 && !node.letsUnlink(fid.user)) {
            return "perm";
        }
        if (node.has(EXCLUSIVE) && isOpenSomewhere(node)) {
            return "excl";
        }
        fid.open(mode);
        if ((mode & OPEN_EMPTIES) != 0 && !node.has(APPEND_ONLY)) {
            change.begin(Kind.ALTER, node, fid.user, now);
            change.length = 0;
            carryOut(message.size);
        }
        answer.putQid(node);
        answer.put(0, 4);
        return OK;
    }

    private static boolean letsOpen(Node node, User user, int mode) {
        int kind = mode & OPEN_KIND;
        boolean reads = kind == TO_READ || kind == TO_READ_AND_WRITE;
        boolean writes = kind == TO_WRITE || kind == TO_READ_AND_WRITE || (mode & OPEN_EMPTIES) != 0;
        if (reads && !node.lets(user, R) || writes && !node.lets(user, W)) {
            return false;
        }
        return kind != TO_EXECUTE || node.lets(user, X);
    }

    private boolean isOpenSomewhere(Node node) {
        for (int i = 0; i < LINKS; i++) {
            if (links[i].hasOpenFidAt(node)) {
                return true;
            }
        }
        return false;
    }

    private String create(Fid fid) {
        Node directory = fid.node;
        int perm = (int) message.number(message.textsEnd, 4);
        int mode = (int) message.number(message.textsEnd + 4, 1);
        if (fid.openMode != NOT_OPEN) {
            return "open";
        }
        if (!directory.isDirectory()) {
            return "dir";
        }
        if (!message.nameFits(FIRST_TEXT)) {
            return "name";
        }
        boolean toDirectory = (perm & DIRECTORY) != 0;
        if ((perm & ~MODE_BITS) != 0 || (mode & ~OPEN_BITS) != 0 || mode != 0 && toDirectory) {
            return "mode";
        }
        if (!directory.lets(fid.user, W)) {
            return "perm";
        }
        if (tree.entry(directory, message, FIRST_TEXT) != null) {
            return "exist";
        }
        if (!tree.hasRoomForEntry(directory)) {
            return "full";
        }
        change.begin(Kind.CREATE, directory, fid.user, now);
        change.mode = perm & ((toDirectory ? DIRECTORY_KEEPS : FILE_KEEPS) | directory.mode);
        change.nameLength = message.copyText(FIRST_TEXT, change.name);
        carryOut(message.size);
        if (log.running) {
            answerCreated(fid, mode);
        }
        return OK;
    }

    private void answerCreated(Fid fid, int mode) {
        Node node = tree.newest();
        fid.place(fid.number, node, fid.user);
        fid.open(mode);
        answer.putQid(node);
        answer.put(0, 4);
    }

    private String read(Fid fid, int msize) {
        if (fid.openMode == NOT_OPEN || fid.openMode == TO_WRITE) {
            return "open";
        }
        long offset = message.number(AT_OFFSET, 8);
        int most = (int) Math.min(message.number(AT_COUNT, 4), msize - READ_HEAD);
        if (fid.node.isDirectory()) {
            return readEntries(fid, offset, most);
        }
        readContent(fid.node, offset, most);
        return OK;
    }

    private void readContent(Node node, long offset, int most) {
        int from = offset < 0 || offset > node.length ? node.length : (int) offset;
        int count = Math.min(most, node.length - from);
        answer.put(count, 4);
        answer.putBytes(node.content, from, count);
    }

    private String readEntries(Fid fid, long offset, int most) {
        if (offset != 0 && offset != fid.nextOffset) {
            return "offset";
        }
        if (offset == 0) {
            fid.lastRead = 0;
        }
        answer.put(0, 4);
        int given = 0;
        for (int i = 0; i < tree.count; i++) {
            Node node = tree.nodes[i];
            if (node.home == fid.node && node.path > fid.lastRead) {
                int size = node.statSize();
                if (given + size > most) {
                    break;
                }
                answer.putStat(node);
                given += size;
                fid.lastRead = node.path;
            }
        }
        answer.set(HEAD, given, 4);
        fid.nextOffset = offset + given;
        return OK;
    }

    private String write(Fid fid) {
        if (fid.openMode != TO_WRITE && fid.openMode != TO_READ_AND_WRITE) {
            return "open";
        }
        // The form has been looked at: the count is that of the bytes in the message.
        int count = message.size - AT_DATA;
        if (count > 0) {
            Node node = fid.node;
            long offset = node.has(APPEND_ONLY) ? node.length : message.number(AT_OFFSET, 8);
            if (offset < 0 || offset > MOST_CONTENT || !tree.hasRoomForContent(node, offset + count)) {
                return "full";
            }
            change.begin(Kind.WRITE, node, fid.user, now);
            change.from = (int) offset;
            change.count = message.copyBytes(AT_DATA, count, change.bytes);
            carryOut(message.size);
        }
        answer.put(count, 4);
        return OK;
    }

    // ---- 120 to 126: letting go, removing, stats

    private String clunk(Fid fid) {
        if (stageRelease(fid)) {
            carryOut(RELEASE_SIZE);
        }
        return OK;
    }

    private String remove(Fid fid) {
        fid.used = false;
        Node node = fid.node;
        if (fid.isGone()) {
            return "gone";
        }
        if (!node.letsUnlink(fid.user)) {
            return "perm";
        }
        if (node.entries > 0) {
            return "empty";
        }
        change.begin(Kind.REMOVE, node, fid.user, now);
        carryOut(message.size);
        return OK;
    }

    private String tell(Node node) {
        answer.put(node.statSize(), 2);
        answer.putStat(node);
        return OK;
    }

    private String alter(Fid fid) {
        Node node = fid.node;
        User user = fid.user;
        if (givesFixedPart()) {
            return "stat";
        }
        change.begin(Kind.ALTER, node, user, now);
        String error = stageLength(node, user);
        if (error.isEmpty()) {
            error = stageMode(node, user);
        }
        if (error.isEmpty()) {
            error = stageMtime(node, user);
        }
        if (error.isEmpty()) {
            error = stageGroup(node, user);
        }
        if (error.isEmpty()) {
            error = stageName(node, user);
        }
        if (error.isEmpty() && change.altersSomething()) {
            carryOut(message.size);
        }
        return error;
    }

    private boolean givesFixedPart() {
        return message.gives(AT_STAT_TYPE, 2)
            || message.gives(AT_STAT_DEV, 4)
            || message.gives(AT_STAT_QID, 13)
            || message.gives(AT_STAT_FIRST_MTIME, 4)
            || message.givesText(OWNER_TEXT)
            || message.givesText(CHANGER_TEXT);
    }

    private String stageLength(Node node, User user) {
        if (!message.gives(AT_STAT_LENGTH, 8)) {
            return OK;
        }
        long length = message.number(AT_STAT_LENGTH, 8);
        if (node.isDirectory()) {
            return "stat";
        }
        if (!node.lets(user, W)) {
            return "perm";
        }
        if (length < 0 || !tree.hasRoomForContent(node, length)) {
            return "full";
        }
        change.length = (int) length;
        return OK;
    }

    private String stageMode(Node node, User user) {
        if (!message.gives(AT_STAT_MODE, 4)) {
            return OK;
        }
        int mode = (int) message.number(AT_STAT_MODE, 4);
        if (user != node.owner) {
            return "perm";
        }
        if ((mode & ~MODE_BITS) != 0 || (mode & DIRECTORY) != (node.mode & DIRECTORY)) {
            return "mode";
        }
        change.givesMode = true;
        change.mode = mode;
        return OK;
    }

    private String stageMtime(Node node, User user) {
        if (!message.gives(AT_STAT_MTIME, 4)) {
            return OK;
        }
        if (user != node.owner) {
            return "perm";
        }
        change.givesMtime = true;
        change.mtime = (int) message.number(AT_STAT_MTIME, 4);
        return OK;
    }

    private String stageGroup(Node node, User user) {
        if (!message.givesText(GROUP_TEXT)) {
            return OK;
        }
        User group = message.userNamed(GROUP_TEXT);
        if (group == null) {
            return "user";
        }
        if (user != node.owner || !user.isIn(group)) {
            return "perm";
        }
        change.group = group;
        return OK;
    }

    private String stageName(Node node, User user) {
        if (!message.givesText(FIRST_TEXT)) {
            return OK;
        }
        if (node.home == null) {
            return "perm";
        }
        if (!message.nameFits(FIRST_TEXT)) {
            return "name";
        }
        if (!node.home.lets(user, W)) {
            return "perm";
        }
        Node holder = tree.entry(node.home, message, FIRST_TEXT);
        if (holder != null && holder != node) {
            return "exist";
        }
        change.nameLength = message.copyText(FIRST_TEXT, change.name);
        return OK;
    }

    // ---- what the server is made of

    /** A user, and the group of the same name. */
    private enum User {
        ANN("ann"), BOB("bob"), CY("cy");

        final String title;

        User(String title) {
            this.title = title;
        }

        boolean isIn(User group) {
            return this == group || this == BOB && group == ANN;
        }
    }

    /** A directory or a file; a spare one has no path. */
    private static final class Node {
        int path = -1;
        int version;
        int mode;
        int mtime;
        User owner = User.ANN;
        User group = User.ANN;
        User changer = User.ANN;
        Node home;
        int entries;
        final byte[] name = new byte[MOST_NAME];
        int nameLength;
        final byte[] content = new byte[MOST_CONTENT];
        int length;

        boolean has(int bit) {
            return (mode & bit) != 0;
        }

        boolean isDirectory() {
            return (mode & DIRECTORY) != 0;
        }

        boolean lets(User user, int right) {
            if ((mode & right) != 0) {
                return true;
            }
            if ((mode >> 3 & right) != 0 && user.isIn(group)) {
                return true;
            }
            return (mode >> 6 & right) != 0 && user == owner;
        }

        boolean letsUnlink(User user) {
            return home != null && home.lets(user, W);
        }

        int blocks() {
            return (mode & DIRECTORY) != 0 ? (entries + 3) / 4 : (length + 15) / 16;
        }

        int statSize() {
            return 2 + BARE_STAT + nameLength + owner.title.length() + group.title.length() + changer.title.length();
        }

        void changeBy(User user, int time) {
            version++;
            mtime = time;
            changer = user;
        }

        void rename(byte[] bytes, int count) {
            nameLength = 0;
            for (int i = 0; i < count && i < MOST_NAME; i++) {
                name[i] = bytes[i];
                nameLength++;
            }
        }

        // Behind the length the content is always zeros, so that to fill it is to lengthen it.
        void resize(int newLength) {
            for (int i = newLength; i < length; i++) {
                content[i] = 0;
            }
            length = newLength;
        }

        void store(byte[] bytes, int from, int count) {
            System.arraycopy(bytes, 0, content, from, count);
            length = Math.max(length, from + count);
        }
    }

    /** The nodes; those besides the root stand by rising path, spare ones behind them. */
    private static final class Tree {
        final Node root = new Node();
        final Node[] nodes = new Node[NODES];
        int count;
        int nextPath = 1;

        Tree() {
            root.path = 0;
            root.mode = ROOT_MODE;
            root.name[0] = '/';
            root.nameLength = 1;
            for (int i = 0; i < NODES; i++) {
                nodes[i] = new Node();
            }
        }

        int spareBlocks() {
            int spare = BLOCKS - root.blocks();
            for (int i = 0; i < count; i++) {
                spare -= nodes[i].blocks();
            }
            return spare;
        }

        boolean hasRoomForEntry(Node directory) {
            int growth = (directory.entries + 4) / 4 - directory.blocks();
            return count < NODES && growth <= spareBlocks();
        }

        boolean hasRoomForContent(Node file, long end) {
            if (end > MOST_CONTENT) {
                return false;
            }
            long growth = (end + 15) / 16 - file.blocks();
            return growth <= spareBlocks();
        }

        Node entry(Node directory, Message message, int text) {
            for (int i = 0; i < count; i++) {
                Node node = nodes[i];
                if (node.home == directory && message.textIsName(text, node)) {
                    return node;
                }
            }
            return null;
        }

        Node newest() {
            return count > 0 ? nodes[count - 1] : root;
        }

        /** A new last entry of a directory; null if there is no node left for it. */
        Node add(Node directory) {
            if (count >= NODES) {
                return null;
            }
            Node node = nodes[count];
            count++;
            node.path = nextPath;
            nextPath++;
            node.home = directory;
            directory.entries++;
            return node;
        }

        void remove(Node node, Node directory) {
            int kept = 0;
            for (int i = 0; i < count; i++) {
                if (nodes[i] != node) {
                    nodes[kept] = nodes[i];
                    kept++;
                }
            }
            if (kept < count) {
                nodes[kept] = node;
                count = kept;
                directory.entries--;
                node.path = -1;
                node.home = null;
            }
        }
    }

    private enum Kind {
        CREATE, WRITE, REMOVE, ALTER
    }

    /** All that it takes to do a change, also after a restart, when its message is gone. */
    private static final class Change {
        Kind kind = Kind.ALTER;
        Node node;
        User user = User.ANN;
        int time;
        int length;
        boolean givesMode;
        int mode;
        boolean givesMtime;
        int mtime;
        User group;
        final byte[] name = new byte[MOST_NAME];
        int nameLength;
        final byte[] bytes = new byte[MOST_CONTENT];
        int from;
        int count;

        void begin(Kind newKind, Node newNode, User newUser, int newTime) {
            kind = newKind;
            node = newNode;
            user = newUser;
            time = newTime;
            length = -1;
            givesMode = false;
            givesMtime = false;
            group = null;
            nameLength = 0;
        }

        boolean altersSomething() {
            return length >= 0 || givesMode || givesMtime || group != null || nameLength > 0;
        }

        void run(Tree tree) {
            if (node == null) {
                return;
            }
            if (kind == Kind.CREATE) {
                create(tree);
            } else if (kind == Kind.WRITE) {
                node.store(bytes, from, count);
                node.changeBy(user, time);
            } else if (kind == Kind.ALTER) {
                alter();
            } else if (node.home != null) {
                Node directory = node.home;
                tree.remove(node, directory);
                directory.changeBy(user, time);
            }
        }

        private void create(Tree tree) {
            Node made = tree.add(node);
            if (made == null) {
                return;
            }
            made.version = 0;
            made.mode = mode;
            made.mtime = time;
            made.owner = user;
            made.group = node.group;
            made.changer = user;
            made.entries = 0;
            made.resize(0);
            made.rename(name, nameLength);
            node.changeBy(user, time);
        }

        private void alter() {
            if (length >= 0) {
                node.resize(length);
                node.changeBy(user, time);
            }
            if (givesMode) {
                node.mode = mode;
            }
            if (group != null) {
                node.group = group;
            }
            if (nameLength > 0 && node.home != null) {
                node.rename(name, nameLength);
                node.home.changeBy(user, time);
            }
            if (givesMtime) {
                node.mtime = mtime;
            }
        }
    }

    /** The count of writes, and whether a change came through them. */
    private static final class Log {
        int made;
        int cutAfter = -1;
        boolean running = true;
        boolean closed;

        boolean admits(int size) {
            int logged = (size + 15) / 16;
            int due = logged + 2;
            int cut = cutAfter;
            cutAfter = -1;
            if (cut < 0 || cut >= due) {
                made += due;
                return true;
            }
            made += cut;
            closed = cut == logged + 1;
            running = false;
            return false;
        }

        void startAgain() {
            made++;
            closed = false;
            running = true;
        }
    }

    private static final class Fid {
        boolean used;
        long number;
        Node node;
        int path;
        User user = User.ANN;
        int openMode = NOT_OPEN;
        boolean removes;
        long nextOffset;
        int lastRead;

        Fid(Node node) {
            this.node = node;
        }

        void place(long newNumber, Node newNode, User newUser) {
            used = true;
            number = newNumber;
            node = newNode;
            path = newNode.path;
            user = newUser;
            openMode = NOT_OPEN;
            removes = false;
            nextOffset = 0;
            lastRead = 0;
        }

        void open(int mode) {
            openMode = mode & OPEN_KIND;
            removes = (mode & OPEN_REMOVES) != 0;
        }

        // A removed node loses its path, and gets a new one when it is used again.
        boolean isGone() {
            return node.path != path;
        }
    }

    /** A connection. */
    private static final class Link {
        final byte[] input = new byte[MOST_INPUT];
        int inputLength;
        final byte[] output = new byte[MOST_WAITING + MOST_MSIZE];
        int outputLength;
        int msize = MOST_MSIZE;
        boolean agreed;
        boolean broken;
        final Fid[] fids = new Fid[FIDS];

        Link() {
            Node nowhere = new Node();
            for (int i = 0; i < FIDS; i++) {
                fids[i] = new Fid(nowhere);
            }
        }

        void reset() {
            inputLength = 0;
            outputLength = 0;
            msize = MOST_MSIZE;
            agreed = false;
            broken = false;
            for (int i = 0; i < FIDS; i++) {
                fids[i].used = false;
            }
        }

        void breakOff() {
            inputLength = 0;
            outputLength = 0;
            broken = true;
        }

        boolean hasRoomFor(int n) {
            return !broken && inputLength + n <= MOST_INPUT;
        }

        void append(long bytes, int n) {
            for (int i = 0; i < n && inputLength < MOST_INPUT; i++) {
                input[inputLength] = (byte) (bytes >>> 8 * i);
                inputLength++;
            }
        }

        void dropInput(int n) {
            System.arraycopy(input, n, input, 0, inputLength - n);
            inputLength -= n;
        }

        long takeOutput() {
            int n = Math.min(8, outputLength);
            long taken = 0;
            for (int i = 0; i < n; i++) {
                taken |= (output[i] & 255L) << 8 * i;
            }
            System.arraycopy(output, n, output, 0, outputLength - n);
            outputLength -= n;
            return taken;
        }

        long firstSize() {
            return input[0] & 255L | (input[1] & 255L) << 8 | (input[2] & 255L) << 16 | (input[3] & 255L) << 24;
        }

        boolean isMissized() {
            return inputLength >= 4 && (firstSize() < HEAD || firstSize() > msize);
        }

        boolean hasMessageToHandle() {
            return outputLength <= MOST_WAITING && inputLength >= HEAD && firstSize() <= inputLength;
        }

        Fid find(long number) {
            for (int i = 0; i < FIDS; i++) {
                if (fids[i].used && fids[i].number == number) {
                    return fids[i];
                }
            }
            return null;
        }

        Fid spareFid() {
            for (int i = 0; i < FIDS; i++) {
                if (!fids[i].used) {
                    return fids[i];
                }
            }
            return null;
        }

        Fid lowestFid() {
            Fid lowest = null;
            for (int i = 0; i < FIDS; i++) {
                Fid fid = fids[i];
                if (fid.used && (lowest == null || fid.number < lowest.number)) {
                    lowest = fid;
                }
            }
            return lowest;
        }

        int countFids() {
            int count = 0;
            for (int i = 0; i < FIDS; i++) {
                if (fids[i].used) {
                    count++;
                }
            }
            return count;
        }

        boolean hasOpenFidAt(Node node) {
            for (int i = 0; i < FIDS; i++) {
                Fid fid = fids[i];
                if (fid.used && fid.node == node && fid.openMode != NOT_OPEN && !fid.isGone()) {
                    return true;
                }
            }
            return false;
        }
    }

    /** The message that is being handled, out of the input; its texts are known once its form is looked at. */
    private static final class Message {
        final byte[] bytes = new byte[MOST_MSIZE];
        int size;
        int type;
        int tag;
        final int[] textAt = new int[MOST_TEXTS];
        final int[] textLength = new int[MOST_TEXTS];
        int texts;
        int textsEnd;

        void takeFrom(Link link) {
            size = (int) Math.min(link.firstSize(), MOST_MSIZE);
            System.arraycopy(link.input, 0, bytes, 0, size);
            link.dropInput(size);
            type = (int) number(4, 1);
            tag = (int) number(5, 2);
            texts = 0;
        }

        /** The number of n bytes at a place; bytes that are not there count as 0. */
        long number(int at, int n) {
            long value = 0;
            for (int i = n - 1; i >= 0; i--) {
                int place = at + i;
                value = value << 8 | (place >= 0 && place < size ? bytes[place] & 255 : 0);
            }
            return value;
        }

        boolean hasKnownType() {
            if (type == VERSION || type == AUTH || type == ATTACH || type == FLUSH) {
                return true;
            }
            return type >= WALK && type <= ALTER && type % 2 == 0;
        }

        boolean isWellFormed() {
            switch (type) {
                case VERSION:
                    return splitTexts(AT_MSIZE + 4, 1) && textsEnd == size;
                case AUTH:
                    return splitTexts(AT_FID + 4, 2) && textsEnd == size;
                case ATTACH:
                    return splitTexts(AT_SECOND_FID + 4, 2) && textsEnd == size;
                case FLUSH:
                    return size == HEAD + 2;
                case WALK:
                    return splitTexts(AT_NAME_COUNT + 2, (int) number(AT_NAME_COUNT, 2)) && textsEnd == size;
                case OPEN:
                    return size == AT_OPEN_MODE + 1;
                case CREATE:
                    return splitTexts(AT_FID + 4, 1) && textsEnd + 5 == size;
                case READ:
                    return size == AT_COUNT + 4;
                case WRITE:
                    return size >= AT_DATA && number(AT_COUNT, 4) == size - AT_DATA;
                case ALTER:
                    return number(AT_STAT_SIZE, 2) == size - AT_STAT && number(AT_STAT, 2) == size - AT_STAT - 2
                        && splitTexts(AT_STAT_LENGTH + 8, MOST_TEXTS) && textsEnd == size;
                default:
                    return size == AT_FID + 4;
            }
        }

        /** Finds the texts that stand one behind the other from a place on; whether they lie within the message. */
        private boolean splitTexts(int from, int count) {
            if (count > MOST_TEXTS) {
                return false;
            }
            int at = from;
            for (int i = 0; i < count; i++) {
                textAt[i] = at + 2;
                textLength[i] = (int) number(at, 2);
                at += 2 + textLength[i];
            }
            texts = count;
            textsEnd = at;
            return at <= size;
        }

        boolean givesText(int text) {
            return textLength[text] > 0;
        }

        /** Whether not all bits are set in the n bytes at a place. */
        boolean gives(int at, int n) {
            for (int i = 0; i < n; i++) {
                if (number(at + i, 1) != 255) {
                    return true;
                }
            }
            return false;
        }

        boolean textBegins(int text, String start) {
            if (textLength[text] < start.length()) {
                return false;
            }
            for (int i = 0; i < start.length(); i++) {
                if (number(textAt[text] + i, 1) != start.charAt(i)) {
                    return false;
                }
            }
            return true;
        }

        boolean textIsName(int text, Node node) {
            if (textLength[text] != node.nameLength) {
                return false;
            }
            for (int i = 0; i < node.nameLength; i++) {
                int place = textAt[text] + i;
                if (place >= size || bytes[place] != node.name[i]) {
                    return false;
                }
            }
            return true;
        }

        User userNamed(int text) {
            for (int i = 0; i < USERS.length; i++) {
                String title = USERS[i].title;
                if (textLength[text] == title.length() && textBegins(text, title)) {
                    return USERS[i];
                }
            }
            return null;
        }

        boolean nameFits(int text) {
            int length = textLength[text];
            if (length < 1 || length > MOST_NAME) {
                return false;
            }
            int dots = 0;
            for (int i = 0; i < length; i++) {
                long c = number(textAt[text] + i, 1);
                if (c < 33 || c > 126 || c == '/') {
                    return false;
                }
                dots += c == '.' ? 1 : 0;
            }
            return length > 2 || dots < length;
        }

        int copyText(int text, byte[] target) {
            return copyBytes(textAt[text], textLength[text], target);
        }

        int copyBytes(int at, int count, byte[] target) {
            int copied = Math.min(count, target.length);
            for (int i = 0; i < copied; i++) {
                target[i] = (byte) number(at + i, 1);
            }
            return copied;
        }
    }

    /** The answer that is being made. */
    private static final class Answer {
        final byte[] bytes = new byte[MOST_MSIZE];
        int length;

        void begin(int type, int tag) {
            length = 4;
            put(type, 1);
            put(tag, 2);
        }

        /** Makes it an error if there is one, and puts it behind the output of a connection. */
        void finish(String error, Link link) {
            if (!error.isEmpty()) {
                set(4, ERROR, 1);
                length = HEAD;
                putText(error);
            }
            set(0, length, 4);
            if (link.outputLength + length <= link.output.length) {
                System.arraycopy(bytes, 0, link.output, link.outputLength, length);
                link.outputLength += length;
            }
        }

        void put(long value, int n) {
            for (int i = 0; i < n && length < bytes.length; i++) {
                bytes[length] = (byte) (value >>> 8 * i);
                length++;
            }
        }

        void set(int at, long value, int n) {
            for (int i = 0; i < n && at + i < bytes.length; i++) {
                bytes[at + i] = (byte) (value >>> 8 * i);
            }
        }

        void putText(String text) {
            put(text.length(), 2);
            for (int i = 0; i < text.length(); i++) {
                put(text.charAt(i), 1);
            }
        }

        void putBytes(byte[] source, int from, int count) {
            for (int i = 0; i < count && from + i < source.length; i++) {
                put(source[from + i], 1);
            }
        }

        void putQid(Node node) {
            put(node.mode >>> 24, 1);
            put(node.version, 4);
            put(node.path, 8);
        }

        void putStat(Node node) {
            put(node.statSize() - 2, 2);
            put(0, 6);
            putQid(node);
            put(node.mode, 4);
            put(node.mtime, 4);
            put(node.mtime, 4);
            put(node.isDirectory() ? 0 : node.length, 8);
            put(node.nameLength, 2);
            putBytes(node.name, 0, node.nameLength);
            putText(node.owner.title);
            putText(node.group.title);
            putText(node.changer.title);
        }
    }
}
