/** The edges of the types 120 and 122, and of releasing a fid. */
public final class RemoveEdgesTest {
    public static void main(String[] args) {
        released();
        releasedWhenGone();
        removedFidIsNoMore();
        removedIsNotReleased();
        goneOne();
        root();
        mayNotW();
        entries();
        orderOfErrors();
        removed();
        ownRightsDoNotCount();
        releaseOfOneNotToRemove();
        releaseOfOneGone();
        releaseOfOneUsedAgain();
        releaseWithoutRight();
        releaseIsBySixteenBytes();
        releaseOfOneWithAnotherName();
        releaseOfAnOpenOne();
        releaseOfTheRoot();
        releaseOfADirectoryWithEntries();
        Check.end();
    }

    private static void released() {
        Check.sentence("120 fid[4]: it is released. Answer: nothing more.");
        Client ann = Client.of("ann");
        ann.makeFile("f", 0x1FF, "");
        ann.walk(0, 1, "f");
        Check.is("not open", ann.clunk(1), "ok");
        Check.is("once more", ann.clunk(1), "error fid");
        ann.walk(0, 1, "f");
        ann.open(1, 2);
        Check.is("open", ann.clunk(1), "ok");
        Check.is("the number can be used", ann.walk(0, 1, "f"), "walked 0.0.1");
        Check.is("the root", ann.clunk(0), "ok");
        Check.is("fids", ann.server.fids(0), 1);
        Check.is("nodes", ann.server.nodes(), 1);
    }

    private static void releasedWhenGone() {
        Check.sentence("120 fid[4]: it is released. Answer: nothing more.");
        Client ann = Client.of("ann");
        ann.createAt(1, "f", 0x1FF, 0);
        ann.walk(0, 2, "f");
        ann.remove(2);
        Check.is("one that is gone", ann.clunk(1), "ok");
        Check.is("fids", ann.server.fids(0), 1);
    }

    private static void removedFidIsNoMore() {
        Check.sentence("122 fid[4]: there is no such fid any more");
        Client ann = Client.of("ann");
        ann.makeDirectory("d", 0x1FF);
        ann.makeFile("f", 0x1FF, "", "d");
        ann.attach(1, "cy");
        ann.walk(1, 1, "d", "f");
        Check.is("perm", ann.remove(1), "error perm");
        Check.is("no such fid", ann.remove(1), "error fid");
        ann.walk(0, 1, "d");
        Check.is("empty", ann.remove(1), "error empty");
        Check.is("no such fid", ann.stat(1), "error fid");
        ann.walk(0, 1, "d", "f");
        ann.walk(0, 2, "d", "f");
        Check.is("removed", ann.remove(1), "ok");
        Check.is("no such fid", ann.stat(1), "error fid");
        Check.is("gone", ann.remove(2), "error gone");
        Check.is("no such fid", ann.remove(2), "error fid");
        Check.is("fids", ann.server.fids(0), 1);
    }

    private static void removedIsNotReleased() {
        Check.sentence("(it is not released besides)");
        Client ann = Client.of("ann");
        ann.attach(1, "bob");
        ann.create(1, "f", 0x1FF, 0x40);
        ann.alter(0, new Alteration().mode(Client.DIR | 0x1C5));
        int writes = ann.server.writes();
        Check.is("bob may not w any more", ann.remove(1), "error perm");
        ann.alter(0, new Alteration().mode(Client.DIR | 0x1FD));
        ann.server.hangup(0);
        Check.is("it stays", ann.server.nodes(), 1);
        Check.is("one change, that of the mode", ann.server.writes(), writes + 6);

        Client other = Client.of("ann");
        other.createAt(1, "f", 0x1FF, 0x40);
        writes = other.server.writes();
        Check.is("removed", other.remove(1), "ok");
        Check.is("one change alone", other.server.writes(), writes + 3);
    }

    private static void goneOne() {
        Check.sentence("it was gone: \"gone\"");
        Client ann = Client.of("ann");
        ann.createAt(1, "f", 0x1FF, 0);
        ann.walk(0, 2, "f");
        ann.remove(1);
        ann.makeFile("f", 0x1FF, "");
        int writes = ann.server.writes();
        Check.is("gone", ann.remove(2), "error gone");
        Check.is("the new one stays", ann.server.nodes(), 1);
        Check.is("no change", ann.server.writes(), writes);
    }

    private static void root() {
        Check.sentence("It is the root, or the user may not w in its directory: \"perm\".");
        Client ann = Client.of("ann");
        Check.is("the root", ann.remove(0), "error perm");
        Check.is("fids", ann.server.fids(0), 0);
        ann.attach(0, "ann");
        ann.makeFile("f", 0x1FF, "");
        Check.is("ahead of its entries", ann.remove(0), "error perm");
    }

    private static void mayNotW() {
        Check.sentence("It is the root, or the user may not w in its directory: \"perm\".");
        String[] users = {"ann", "bob", "cy"};
        for (int bit = 0; bit < 9; bit++) {
            for (int user = 0; user < 3; user++) {
                Client ann = Client.of("ann");
                ann.makeDirectory("d", 0x1FF);
                ann.makeFile("f", 0x1FF, "", "d");
                ann.attach(1, users[user]);
                ann.walk(1, 1, "d", "f");
                ann.walk(0, 2, "d");
                ann.alter(2, new Alteration().mode(Client.DIR | 1 << bit));
                boolean may = bit == 1 || bit == 4 && user < 2 || bit == 7 && user == 0;
                Check.is(users[user] + " with mode " + (1 << bit), ann.remove(1), may ? "ok" : "error perm");
                Check.is("nodes", ann.server.nodes(), may ? 1 : 2);
            }
        }
    }

    private static void entries() {
        Check.sentence("It has entries: \"empty\".");
        Client ann = Client.of("ann");
        ann.makeDirectory("d", 0x1FF);
        ann.makeFile("f", 0x1FF, "", "d");
        ann.makeFile("g", 0x1FF, "", "d");
        for (String name : new String[] {"f", "g"}) {
            ann.walk(0, 1, "d");
            Check.is("with entries", ann.remove(1), "error empty");
            ann.walk(0, 1, "d", name);
            Check.is("an entry", ann.remove(1), "ok");
        }
        ann.walk(0, 1, "d");
        Check.is("without", ann.remove(1), "ok");
        Check.is("nodes", ann.server.nodes(), 0);
        ann.makeFile("full", 0x1FF, "content");
        ann.walk(0, 1, "full");
        Check.is("a file with a content", ann.remove(1), "ok");
    }

    private static void orderOfErrors() {
        Check.sentence("HANDLING, the first error that applies.");
        Client ann = Client.of("ann");
        ann.makeDirectory("d", 0x1FF);
        ann.makeFile("f", 0x1FF, "", "d");
        ann.attach(1, "cy");
        ann.walk(1, 1, "d");
        Check.is("perm is ahead of empty", ann.remove(1), "error perm");
    }

    private static void removed() {
        Check.sentence("A CHANGE: it is removed, its directory changes. Answer: nothing more.");
        Client ann = Client.of("ann");
        ann.makeDirectory("d", 0x1FF);
        ann.makeFile("f", 0x1FF, "0123456789012345678901234567890123456789", "d");
        Check.is("free", ann.server.free(), 19);
        ann.attach(1, "bob");
        ann.walk(1, 1, "d", "f");
        ann.server.clock(-9);
        int writes = ann.server.writes();
        Check.is("removed", ann.remove(1), "ok");
        Check.is("11 bytes", ann.server.writes(), writes + 3);
        Check.is("free", ann.server.free(), 23);
        Check.is("its directory", ann.look("d"), "d 80.2.1 800001fd 4294967287 0 ann ann bob");
        Check.is("not that above", ann.stat(0), "/ 80.1.0 800001fd 0 0 ann ann ann");
        Check.is("it is not there", ann.walk(0, 2, "d", "f"), "walked 80.2.1");
    }

    private static void ownRightsDoNotCount() {
        Check.sentence("the user may not w in its directory: \"perm\"");
        Client ann = Client.of("ann");
        ann.createAt(1, "f", 0, 0);
        ann.attach(2, "bob");
        ann.walk(2, 2, "f");
        Check.is("bob, who may nothing with the file", ann.remove(2), "ok");
    }

    private static void releaseOfOneNotToRemove() {
        Check.sentence("To RELEASE a fid: there is no such fid any more; if it was to remove");
        Client ann = Client.of("ann");
        ann.createAt(1, "f", 0x1FF, 0x13);
        int writes = ann.server.writes();
        ann.clunk(1);
        Check.is("nodes", ann.server.nodes(), 1);
        Check.is("no change", ann.server.writes(), writes);
    }

    private static void releaseOfOneGone() {
        Check.sentence("if it was to remove, not gone");
        Client ann = Client.of("ann");
        ann.createAt(1, "f", 0x1FF, 0x40);
        ann.walk(0, 2, "f");
        ann.open(2, 0x41);
        ann.clunk(2);
        Check.is("removed", ann.server.nodes(), 0);
        int writes = ann.server.writes();
        ann.server.cut(0);
        Check.is("gone", ann.clunk(1), "ok");
        Check.is("no change", ann.server.writes(), writes);
        Check.is("up", ann.server.up(), true);
        Check.is("root", ann.stat(0), "/ 80.2.0 800001fd 0 0 ann ann ann");
    }

    private static void releaseOfOneUsedAgain() {
        Check.sentence("if it was to remove, not gone");
        Client ann = Client.of("ann");
        ann.createAt(1, "f", 0x1FF, 0x40);
        ann.walk(0, 2, "f");
        ann.remove(2);
        ann.createAt(2, "f", 0x1FF, 0);
        ann.clunk(1);
        Check.is("the new one stays", ann.server.nodes(), 1);
        Check.is("and its fid is not gone", ann.stat(2), "f 0.0.2 1fd 0 0 ann ann ann");
    }

    private static void releaseWithoutRight() {
        Check.sentence("and the user may w in its directory: a CHANGE");
        Client ann = Client.of("ann");
        ann.attach(1, "bob");
        ann.create(1, "f", 0x1FF, 0x40);
        ann.alter(0, new Alteration().mode(Client.DIR | 0x1C5));
        int writes = ann.server.writes();
        Check.is("bob may not w any more", ann.clunk(1), "ok");
        Check.is("it stays", ann.server.nodes(), 1);
        Check.is("no change", ann.server.writes(), writes);
        Check.is("no such fid any more", ann.clunk(1), "error fid");
    }

    private static void releaseIsBySixteenBytes() {
        Check.sentence("but 16 for one by releasing");
        Client ann = Client.of("ann");
        ann.createAt(1, "f", 0x1FF, 0x40);
        int writes = ann.server.writes();
        ann.version(128, "9P2000" + "x".repeat(100));
        Check.is("by a message of 119 bytes", ann.server.writes(), writes + 3);
    }

    private static void releaseOfOneWithAnotherName() {
        Check.sentence("that is removed, its directory changes");
        Client ann = Client.of("ann");
        ann.createAt(1, "f", 0x1FF, 0x40);
        ann.alter(1, new Alteration().name("g"));
        ann.makeFile("f", 0x1FF, "");
        ann.server.clock(4);
        ann.clunk(1);
        Check.is("the other is there", ann.look("f"), "f 0.0.2 1fd 0 0 ann ann ann");
        Check.is("it is not", ann.look("g"), "error noent");
        Check.is("root", ann.stat(0), "/ 80.4.0 800001fd 4 0 ann ann ann");
    }

    private static void releaseOfAnOpenOne() {
        Check.sentence("that is removed, its directory changes");
        Client ann = Client.of("ann");
        ann.makeDirectory("d", 0x1FF);
        ann.createAt(1, "f", 0x1FF, 0x42, "d");
        ann.walk(0, 2, "d", "f");
        ann.open(2, 2);
        ann.clunk(1);
        Check.is("another fid is open at it", ann.server.nodes(), 1);
        Check.is("and gone", ann.write(2, 0, "x"), "error gone");
        Check.is("free", ann.server.free(), 23);
        ann.walk(0, 1, "d");
        Check.is("the directory is empty", ann.remove(1), "ok");
    }

    /** The root cannot be opened to be removed, and no way of releasing it does so. */
    private static void releaseOfTheRoot() {
        Check.sentence("its node not the root, no directory with entries");
        for (int way = 0; way < 3; way++) {
            Client ann = Client.of("ann");
            Check.is("to remove", ann.open(0, 0x40), "error dir");
            Check.is("open", ann.open(0, 0), "80.0.0");
            if (way == 0) {
                ann.clunk(0);
            } else if (way == 1) {
                ann.server.hangup(0);
            } else {
                ann.server.feed(0, 0, 4);
            }
            Check.is("no change", ann.server.writes(), 0);
            ann.server.hangup(0);
            ann = Client.of(ann.server, 0, "ann");
            Check.is("it is there", ann.stat(0), "/ 80.0.0 800001fd 0 0 ann ann ann");
        }
    }

    private static void releaseOfADirectoryWithEntries() {
        Check.sentence("its node not the root, no directory with entries");
        Client ann = Client.of("ann");
        ann.makeDirectory("d", 0x1FF);
        ann.makeFile("f", 0x1FF, "", "d");
        ann.walk(0, 1, "d");
        Check.is("to remove", ann.open(1, 0x40), "error dir");
        Check.is("created to remove", ann.createAt(2, "e", Client.DIR | 0x1FF, 0x40), "error mode");
        ann.open(1, 0);
        int writes = ann.server.writes();
        ann.server.hangup(0);
        Check.is("no change", ann.server.writes(), writes);
        Check.is("nodes", ann.server.nodes(), 2);
    }
}
