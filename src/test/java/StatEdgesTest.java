/** The edges of the types 124 and 126. */
public final class StatEdgesTest {
    private static final String SIXTY_FOUR = "0123456789abcdefghijklmnopqrstuvwxyzABCDEFGHIJKLMNOPQRSTUVWXYZ+-";

    public static void main(String[] args) {
        statNeedsNoRight();
        nothingGiven();
        everyByteOfTheFixedParts();
        fixedTexts();
        lengthOfADirectory();
        lengthWithoutRight();
        lengthOf64();
        lengthAndBlocks();
        lengthCutsAndFills();
        modeOfOthers();
        modeBits();
        modeOfADirectory();
        everyByteOfAMode();
        mtimeOfOthers();
        everyByteOfAnMtime();
        groupOfNone();
        groupOfOthers();
        nameOfTheRoot();
        nameThatDoesNotFit();
        nameWithoutRight();
        nameOfAnother();
        itsOwnName();
        nameChangesTheDirectory();
        orderOfErrors();
        oneChange();
        mtimeAtLast();
        aloneLeaveVersionAndChanger();
        refusedLeavesNothingBehind();
        Check.end();
    }

    /** ann at fid 1 at her file f with content hello, made at clock 10; the clock is 20 then. */
    private static Client withFile() {
        Client ann = Client.of("ann");
        ann.server.clock(10);
        ann.createAt(1, "f", 0x1FF, 2);
        ann.write(1, 0, "hello");
        ann.server.clock(20);
        return ann;
    }

    /** Fid 2 of a user at the file f. */
    private static Client withUser(String user) {
        Client ann = withFile();
        ann.attach(2, user);
        ann.walk(2, 2, "f");
        return ann;
    }

    private static void statNeedsNoRight() {
        Check.sentence("124 fid[4]: Answer: m[2], the number of bytes of the stat, and the stat.");
        Client ann = withUser("cy");
        ann.alter(1, new Alteration().mode(0));
        Check.is("cy", ann.stat(2), "f 0.1.1 0 10 5 ann ann ann");
        Check.is("an open one", ann.stat(1), "f 0.1.1 0 10 5 ann ann ann");
    }

    private static void nothingGiven() {
        Check.sentence("what has all bits set, or is an empty text, is not given");
        Client ann = withUser("cy");
        int writes = ann.server.writes();
        ann.server.cut(0);
        Check.is("ann", ann.alter(1, new Alteration()), "ok");
        Check.is("cy", ann.alter(2, new Alteration()), "ok");
        Check.is("the root", ann.alter(0, new Alteration()), "ok");
        Check.is("no change", ann.server.writes(), writes);
        Check.is("up", ann.server.up(), true);
        Check.is("stat", ann.stat(1), "f 0.1.1 1fd 10 5 ann ann ann");
    }

    /** Any byte that is not 255 gives a part; those of mode, mtime and length are tried elsewhere. */
    private static void everyByteOfTheFixedParts() {
        Check.sentence("Type [2], dev [4], a part of the qid, the first mtime, owner or changer is given: \"stat\".");
        for (int at = 2; at < 41; at++) {
            boolean fixed = at < 21 || at >= 25 && at < 29;
            if (fixed) {
                Client ann = withFile();
                for (int value : new int[] {0, 0x7F, 0xFE}) {
                    byte[] stat = new Alteration().bytes();
                    stat[at] = (byte) value;
                    Check.is("byte " + at + " is " + value, ann.send(126, new Bytes().number(1, 4)
                        .number(stat.length, 2).raw(stat).all()), "error stat");
                }
                Check.is("no change", ann.stat(1), "f 0.1.1 1fd 10 5 ann ann ann");
            }
        }
    }

    private static void fixedTexts() {
        Check.sentence("owner or changer is given: \"stat\"");
        for (String text : new String[] {"ann", "bob", "x", "\u0000", "long enough"}) {
            Client ann = withFile();
            Check.is("owner " + text, ann.alter(1, new Alteration().owner(text)), "error stat");
            Check.is("changer " + text, ann.alter(1, new Alteration().changer(text)), "error stat");
            Check.is("with more", ann.alter(1, new Alteration().owner(text).mode(0)), "error stat");
            Check.is("no change", ann.stat(1), "f 0.1.1 1fd 10 5 ann ann ann");
        }
    }

    private static void lengthOfADirectory() {
        Check.sentence("Length is given: a directory: \"stat\"");
        Client ann = withFile();
        ann.attach(2, "cy");
        for (long length : new long[] {0, 1, 64, 65, -2}) {
            Check.is("length " + length, ann.alter(0, new Alteration().length(length)), "error stat");
            Check.is("ahead of perm", ann.alter(2, new Alteration().length(length)), "error stat");
        }
    }

    private static void lengthWithoutRight() {
        Check.sentence("the user may not w: \"perm\"");
        String[] users = {"ann", "bob", "cy"};
        for (int bit = 0; bit < 9; bit++) {
            for (int user = 0; user < 3; user++) {
                Client ann = withUser(users[user]);
                ann.alter(1, new Alteration().mode(1 << bit));
                boolean may = bit == 1 || bit == 4 && user < 2 || bit == 7 && user == 0;
                Check.is(users[user] + " with mode " + (1 << bit), ann.alter(2, new Alteration().length(3)),
                    may ? "ok" : "error perm");
                Check.is("ahead of full", ann.alter(2, new Alteration().length(65)),
                    may ? "error full" : "error perm");
            }
        }
    }

    private static void lengthOf64() {
        Check.sentence("it is more than 64 or the blocks do not suffice: \"full\"");
        Client ann = withFile();
        for (long length : new long[] {65, 66, 0x100, 0x10000, 0x100000000L, 0x100000001L, Long.MAX_VALUE,
            Long.MIN_VALUE, -2}) {
            Check.is("length " + length, ann.alter(1, new Alteration().length(length)), "error full");
        }
        for (int length : new int[] {64, 63, 0, 1}) {
            Check.is("length " + length, ann.alter(1, new Alteration().length(length)), "ok");
            Check.is("it is", ann.stat(1).split(" ")[4], "" + length);
        }
    }

    private static void lengthAndBlocks() {
        Check.sentence("it is more than 64 or the blocks do not suffice: \"full\"");
        Client ann = Client.of("ann");
        for (int i = 0; i < 5; i++) {
            ann.makeFile("f" + i, 0x1FF, SIXTY_FOUR);
        }
        ann.createAt(1, "g", 0x1FF, 2);
        Check.is("free", ann.server.free(), 2);
        Check.is("three of two", ann.alter(1, new Alteration().length(33)), "error full");
        Check.is("two of two", ann.alter(1, new Alteration().length(32)), "ok");
        Check.is("free", ann.server.free(), 0);
        Check.is("one of none", ann.alter(1, new Alteration().length(33)), "error full");
        Check.is("none of none", ann.alter(1, new Alteration().length(17)), "ok");
        Check.is("one less", ann.alter(1, new Alteration().length(16)), "ok");
        Check.is("free", ann.server.free(), 1);
    }

    private static void lengthCutsAndFills() {
        Check.sentence("the content is cut or filled with zeros");
        Client ann = withFile();
        ann.alter(1, new Alteration().length(3));
        Check.is("cut", ann.read(1, 0, 64), "read hel");
        ann.alter(1, new Alteration().length(7));
        Check.is("filled", ann.read(1, 0, 64), "read hel" + "\u0000".repeat(4));
        ann.alter(1, new Alteration().length(0));
        Check.is("empty", ann.read(1, 0, 64), "read ");
        ann.alter(1, new Alteration().length(64));
        Check.is("filled", ann.read(1, 0, 64), "read " + "\u0000".repeat(64));
        ann.alter(1, new Alteration().length(64));
        Check.is("to the same is a change, too", ann.stat(1), "f 0.6.1 1fd 20 64 ann ann ann");
    }

    private static void modeOfOthers() {
        Check.sentence("Mode is given: the user is not the owner: \"perm\"");
        for (String user : new String[] {"bob", "cy"}) {
            Client ann = withUser(user);
            Check.is(user, ann.alter(2, new Alteration().mode(0x1FF)), "error perm");
            Check.is("ahead of mode", ann.alter(2, new Alteration().mode(0x200)), "error perm");
            Check.is("the same one", ann.alter(2, new Alteration().mode(0x1FD)), "error perm");
        }
        Client ann = Client.of("ann");
        ann.attach(2, "bob");
        ann.create(2, "f", 0x1FF, 0);
        ann.walk(0, 1, "f");
        Check.is("ann is not bob", ann.alter(1, new Alteration().mode(0)), "error perm");
        Check.is("bob is", ann.alter(2, new Alteration().mode(0)), "ok");
    }

    private static void modeBits() {
        Check.sentence("bits other than 0xE00001FF, or 0x80000000 otherwise than it is: \"mode\"");
        for (int bit = 0; bit < 32; bit++) {
            Client ann = withFile();
            boolean other = bit > 8 && bit < 29 || bit == 31;
            Check.is("bit " + bit, ann.alter(1, new Alteration().mode(1L << bit)), other ? "error mode" : "ok");
            Check.is("mode", ann.stat(1).split(" ")[2], other ? "1fd" : Long.toHexString(1L << bit));
        }
        Client ann = withFile();
        Check.is("all that may be", ann.alter(1, new Alteration().mode(0x600001FFL)), "ok");
        Check.is("none", ann.alter(1, new Alteration().mode(0)), "ok");
    }

    private static void modeOfADirectory() {
        Check.sentence("0x80000000 otherwise than it is: \"mode\"");
        for (int bit = 0; bit < 31; bit++) {
            Client ann = Client.of("ann");
            boolean other = bit > 8 && bit < 29;
            Check.is("bit " + bit, ann.alter(0, new Alteration().mode(Client.DIR | 1L << bit)),
                other ? "error mode" : "ok");
            Check.is("no directory", ann.alter(0, new Alteration().mode(1L << bit)), "error mode");
        }
        Client ann = Client.of("ann");
        Check.is("all", ann.alter(0, new Alteration().mode(0xE00001FFL)), "ok");
        Check.is("stat", ann.stat(0), "/ e0.0.0 e00001ff 0 0 ann ann ann");
    }

    private static void everyByteOfAMode() {
        Check.sentence("what has all bits set, or is an empty text, is not given");
        for (long mode : new long[] {0xFFFFFFFEL, 0xFFFFFEFFL, 0xFFFEFFFFL, 0xFEFFFFFFL, 0x7FFFFFFF, 0x00FFFFFF}) {
            Check.is("mode " + mode, withFile().alter(1, new Alteration().mode(mode)), "error mode");
        }
    }

    private static void mtimeOfOthers() {
        Check.sentence("The (second) mtime is given: not the owner: \"perm\".");
        for (String user : new String[] {"bob", "cy"}) {
            Client ann = withUser(user);
            Check.is(user, ann.alter(2, new Alteration().mtime(0)), "error perm");
        }
        Check.is("ann", withFile().alter(1, new Alteration().mtime(0)), "ok");
    }

    private static void everyByteOfAnMtime() {
        Check.sentence("what has all bits set, or is an empty text, is not given");
        for (long mtime : new long[] {0, 1, 0xFF, 0x100, 0x80000000L, 0xFFFFFFFEL, 0xFFFFFEFFL, 0xFFFEFFFFL,
            0xFEFFFFFFL, 0x7FFFFFFF, 0x00FFFFFF}) {
            Client ann = withFile();
            Check.is("mtime " + mtime, ann.alter(1, new Alteration().mtime(mtime)), "ok");
            Check.is("it is", ann.stat(1), "f 0.1.1 1fd " + mtime + " 5 ann ann ann");
        }
    }

    private static void groupOfNone() {
        Check.sentence("Group is given: no such one: \"user\"");
        for (String group : new String[] {"a", "an", "anna", "Ann", "dan", "\u0000", "x".repeat(50)}) {
            Client ann = withUser("cy");
            Check.is("group " + group, ann.alter(1, new Alteration().group(group)), "error user");
            Check.is("ahead of perm", ann.alter(2, new Alteration().group(group)), "error user");
        }
    }

    private static void groupOfOthers() {
        Check.sentence("the user is not the owner or not in that group: \"perm\"");
        String[] users = {"ann", "bob", "cy"};
        for (String owner : users) {
            for (String user : users) {
                for (String group : users) {
                    Client client = Client.of("ann");
                    client.alter(0, new Alteration().mode(Client.DIR | 0x1FF));
                    client.attach(1, owner);
                    client.create(1, "f", 0x1FF, 0);
                    client.attach(2, user);
                    client.walk(2, 2, "f");
                    boolean may = user.equals(owner)
                        && (user.equals(group) || user.equals("bob") && group.equals("ann"));
                    Check.is(user + " gives " + owner + "'s file to " + group,
                        client.alter(2, new Alteration().group(group)), may ? "ok" : "error perm");
                    Check.is("stat", client.stat(1), "f 0.0.1 1ff 0 0 " + owner + " " + (may ? group : "ann") + " "
                        + owner);
                }
            }
        }
    }

    private static void nameOfTheRoot() {
        Check.sentence("Name is given: the root: \"perm\"");
        Client ann = Client.of("ann");
        for (String name : new String[] {"/", "r", "..", "123456789"}) {
            Check.is("name " + name, ann.alter(0, new Alteration().name(name)), "error perm");
        }
        Check.is("stat", ann.stat(0), "/ 80.0.0 800001fd 0 0 ann ann ann");
    }

    private static void nameThatDoesNotFit() {
        Check.sentence("it does not fit: \"name\"");
        for (String name : new String[] {".", "..", "/", "a/b", " ", "a b", "123456789", "\u0000", "\u0020", "\u007f",
            "\u0080", "\u00ff"}) {
            Client ann = withUser("cy");
            Check.is("name " + name, ann.alter(1, new Alteration().name(name)), "error name");
            Check.is("ahead of perm", ann.alter(2, new Alteration().name(name)), "error name");
            Check.is("stat", ann.stat(1), "f 0.1.1 1fd 10 5 ann ann ann");
        }
        for (String name : new String[] {"a", "!", "~", "...", "12345678"}) {
            Check.is("name " + name, withFile().alter(1, new Alteration().name(name)), "ok");
        }
    }

    private static void nameWithoutRight() {
        Check.sentence("the user may not w in its directory: \"perm\"");
        Client ann = withUser("cy");
        ann.makeFile("g", 0x1FF, "");
        Check.is("cy", ann.alter(2, new Alteration().name("n")), "error perm");
        Check.is("ahead of exist", ann.alter(2, new Alteration().name("g")), "error perm");
        Check.is("its own", ann.alter(2, new Alteration().name("f")), "error perm");
        ann.alter(0, new Alteration().mode(Client.DIR | 0x17D));
        ann.alter(0, new Alteration().mode(Client.DIR | 0x16D));
        Check.is("ann, the owner of the file", ann.alter(1, new Alteration().name("n")), "error perm");
        ann.alter(0, new Alteration().mode(Client.DIR | 0x002));
        Check.is("cy, whose file it is not", ann.alter(2, new Alteration().name("n")), "ok");
    }

    private static void nameOfAnother() {
        Check.sentence("another entry there has it: \"exist\"");
        Client ann = withFile();
        ann.makeFile("g", 0x1FF, "");
        ann.makeDirectory("d", 0x1FF);
        ann.makeFile("x", 0x1FF, "", "d");
        Check.is("a file's", ann.alter(1, new Alteration().name("g")), "error exist");
        Check.is("a directory's", ann.alter(1, new Alteration().name("d")), "error exist");
        Check.is("one in another directory", ann.alter(1, new Alteration().name("x")), "ok");
        Check.is("stat", ann.stat(1), "x 0.1.1 1fd 10 5 ann ann ann");
        ann.walk(0, 2, "d", "x");
        Check.is("one that is left", ann.alter(2, new Alteration().name("f")), "ok");
    }

    private static void itsOwnName() {
        Check.sentence("(its own name may be given)");
        Client ann = withUser("bob");
        int writes = ann.server.writes();
        ann.server.clock(30);
        Check.is("its own", ann.alter(2, new Alteration().name("f")), "ok");
        Check.is("something is given, so it is a change", ann.server.writes(), writes + 6);
        Check.is("the file", ann.stat(1), "f 0.1.1 1fd 10 5 ann ann ann");
        Check.is("an entry was named anew in the root", ann.stat(0), "/ 80.2.0 800001fd 30 0 ann ann bob");
    }

    private static void nameChangesTheDirectory() {
        Check.sentence("or an entry is created, removed or named anew in it: its version grows by 1, MTIME is the "
            + "clock, its changer is the user");
        Client ann = withUser("bob");
        ann.server.clock(-30);
        Check.is("named anew", ann.alter(2, new Alteration().name("n")), "ok");
        Check.is("the root", ann.stat(0), "/ 80.2.0 800001fd 4294967266 0 ann ann bob");
        Check.is("the file is not changed", ann.stat(1), "n 0.1.1 1fd 10 5 ann ann ann");
        Check.is("by the old name", ann.walk(0, 3, "f"), "error noent");
        Check.is("by the new one", ann.walk(0, 3, "n"), "walked 0.1.1");
    }

    private static void orderOfErrors() {
        Check.sentence("HANDLING, the first error that applies.");
        Client ann = withUser("cy");
        Alteration all = new Alteration().length(65).mode(0x200).mtime(1).group("dan").name("/").owner("x");
        Check.is("stat", ann.alter(2, all), "error stat");
        Check.is("length's perm", ann.alter(2, all.owner("")), "error perm");
        Check.is("length's full", ann.alter(1, all), "error full");
        Check.is("mode's mode", ann.alter(1, all.length(1)), "error mode");
        Check.is("mode's perm", ann.alter(2, all.length(-1)), "error perm");
        Check.is("mtime's perm", ann.alter(2, all.mode(-1)), "error perm");
        Check.is("group's user", ann.alter(1, all), "error user");
        Check.is("group's user", ann.alter(2, all.mtime(-1)), "error user");
        Check.is("group's perm", ann.alter(1, all.group("bob")), "error perm");
        Check.is("name's name", ann.alter(1, all.group("ann")), "error name");
        Check.is("the root's group ahead of its name", ann.alter(0, new Alteration().group("dan").name("n")),
            "error user");
        Check.is("nothing was done", ann.stat(1), "f 0.1.1 1fd 10 5 ann ann ann");
        Check.is("nor to the root", ann.stat(0), "/ 80.1.0 800001fd 10 0 ann ann ann");
    }

    private static void oneChange() {
        Check.sentence("If something is given, one CHANGE does it all");
        Alteration[] given = {new Alteration().length(1), new Alteration().mode(0), new Alteration().mtime(0),
            new Alteration().group("ann"), new Alteration().name("n"),
            new Alteration().length(1).mode(0).mtime(0).group("ann").name("n")};
        int[] sizes = {62, 62, 62, 65, 63, 66};
        for (int i = 0; i < given.length; i++) {
            Client ann = withFile();
            int writes = ann.server.writes();
            Check.is("given", ann.alter(1, given[i]), "ok");
            Check.is("writes of " + i, ann.server.writes() - writes, (sizes[i] + 15) / 16 + 2);
        }
    }

    private static void mtimeAtLast() {
        Check.sentence("mode, group, name, and at last mtime are what is given");
        Client ann = withFile();
        Check.is("length and mtime", ann.alter(1, new Alteration().length(5).mtime(3)), "ok");
        Check.is("the mtime is the one given", ann.stat(1), "f 0.2.1 1fd 3 5 ann ann ann");
        Check.is("name and mtime", ann.alter(1, new Alteration().name("n").mtime(4)), "ok");
        Check.is("of the file", ann.stat(1), "n 0.2.1 1fd 4 5 ann ann ann");
        Check.is("not of the directory", ann.stat(0), "/ 80.2.0 800001fd 20 0 ann ann ann");
    }

    private static void aloneLeaveVersionAndChanger() {
        Check.sentence("(mode, group and mtime alone leave version and changer)");
        Client ann = withUser("bob");
        ann.open(2, 1);
        ann.write(2, 0, "H");
        ann.server.clock(40);
        ann.alter(1, new Alteration().mode(0x1F8));
        Check.is("mode", ann.stat(1), "f 0.2.1 1f8 20 5 ann ann bob");
        ann.alter(1, new Alteration().group("ann"));
        Check.is("group", ann.stat(1), "f 0.2.1 1f8 20 5 ann ann bob");
        ann.alter(1, new Alteration().mtime(7));
        Check.is("mtime", ann.stat(1), "f 0.2.1 1f8 7 5 ann ann bob");
        ann.alter(1, new Alteration().mode(0x1C0).group("ann").mtime(8));
        Check.is("all three", ann.stat(1), "f 0.2.1 1c0 8 5 ann ann bob");
        ann.alter(1, new Alteration().mode(0x1C0).length(5));
        Check.is("with length", ann.stat(1), "f 0.3.1 1c0 40 5 ann ann ann");
        Check.is("the root", ann.stat(0), "/ 80.1.0 800001fd 10 0 ann ann ann");
    }

    private static void refusedLeavesNothingBehind() {
        Check.sentence("A call that is refused changes nothing.");
        Client ann = withFile();
        int writes = ann.server.writes();
        Check.is("refused at last", ann.alter(1, new Alteration().length(1).mode(0).mtime(1).group("ann").name("/")),
            "error name");
        Check.is("nothing is given", ann.alter(1, new Alteration()), "ok");
        Check.is("no change", ann.server.writes(), writes);
        Check.is("refused at last", ann.alter(1, new Alteration().length(1).mode(0).mtime(1).group("ann").name("/")),
            "error name");
        Check.is("a name alone", ann.alter(1, new Alteration().name("n")), "ok");
        Check.is("stat", ann.stat(1), "n 0.1.1 1fd 10 5 ann ann ann");
        Check.is("refused at the group", ann.alter(1, new Alteration().length(1).mode(0).mtime(1).group("x").name("m")),
            "error user");
        Check.is("an mtime alone", ann.alter(1, new Alteration().mtime(9)), "ok");
        Check.is("stat", ann.stat(1), "n 0.1.1 1fd 9 5 ann ann ann");
        Check.is("emptied alone", ann.walk(0, 2, "n") + ann.open(2, 0x10), "walked 0.1.10.2.1");
        Check.is("stat", ann.stat(1), "n 0.2.1 1fd 20 0 ann ann ann");
    }
}
