/** The stat of a message 126: nothing is given at first. */
final class Alteration {
    private long type = -1;
    private long dev = -1;
    private long qidType = -1;
    private long qidVersion = -1;
    private long qidPath = -1;
    private long mode = -1;
    private long firstMtime = -1;
    private long mtime = -1;
    private long length = -1;
    private String name = "";
    private String owner = "";
    private String group = "";
    private String changer = "";

    Alteration type(long value) {
        type = value;
        return this;
    }

    Alteration dev(long value) {
        dev = value;
        return this;
    }

    Alteration qid(long newType, long version, long path) {
        qidType = newType;
        qidVersion = version;
        qidPath = path;
        return this;
    }

    Alteration mode(long value) {
        mode = value;
        return this;
    }

    Alteration firstMtime(long value) {
        firstMtime = value;
        return this;
    }

    Alteration mtime(long value) {
        mtime = value;
        return this;
    }

    Alteration length(long value) {
        length = value;
        return this;
    }

    Alteration name(String value) {
        name = value;
        return this;
    }

    Alteration owner(String value) {
        owner = value;
        return this;
    }

    Alteration group(String value) {
        group = value;
        return this;
    }

    Alteration changer(String value) {
        changer = value;
        return this;
    }

    byte[] bytes() {
        byte[] behind = new Bytes().number(type, 2).number(dev, 4)
            .number(qidType, 1).number(qidVersion, 4).number(qidPath, 8)
            .number(mode, 4).number(firstMtime, 4).number(mtime, 4).number(length, 8)
            .text(name).text(owner).text(group).text(changer).all();
        return new Bytes().number(behind.length, 2).raw(behind).all();
    }
}
