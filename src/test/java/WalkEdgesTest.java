/** The edges of type 110. */
public final class WalkEdgesTest {
    public static void main(String[] args) {
        noSuchFid();
        gone();
        open();
        newFidInUse();
        newFidIsTheFid();
        seventhFid();
        orderOfErrors();
        noDirectory();
        mayNotX();
        mayNotXUpward();
        upward();
        upwardFromTheRoot();
        emptyAndDot();
        noEntry();
        entryOfThatDirectory();
        errorAtTheFirst();
        errorAtALaterOne();
        fourNames();
        withoutNames();
        newFidIsNotOpen();
        newFidIsNotToRemove();
        newFidHasTheUser();
        Check.end();
    }

    /** The directory d, in it e, in that the file f; and the file g. */
    private static Client tree() {
        Client ann = Client.of("ann");
        ann.makeDirectory("d", 0x1FF);
        ann.makeDirectory("e", 0x1FF, "d");
        ann.makeFile("f", 0x1FF, "", "d", "e");
        ann.makeFile("g", 0x1FF, "");
        return ann;
    }

    private static void noSuchFid() {
        Check.sentence("no such fid: \"fid\"");
        Client ann = tree();
        Check.is("another", ann.walk(1, 2, "d"), "error fid");
        Check.is("itself", ann.walk(1, 1, "d"), "error fid");
        Check.is("ahead of in use", ann.walk(1, 0, "x"), "error fid");
        Check.is("fids", ann.server.fids(0), 1);
    }

    private static void gone() {
        Check.sentence("It is gone: \"gone\".");
        Client ann = tree();
        ann.walk(0, 1, "g");
        ann.walk(0, 2, "g");
        ann.open(2, 0);
        ann.remove(1);
        Check.is("without names", ann.walk(2, 3), "error gone");
        Check.is("ahead of open and in use", ann.walk(2, 0, "x"), "error gone");
        Check.is("itself", ann.walk(2, 2), "error gone");
        Check.is("to a newfid that is gone", ann.walk(0, 2), "error inuse");
    }

    private static void open() {
        Check.sentence("It is open: \"open\".");
        Client ann = tree();
        ann.walk(0, 1, "d");
        ann.open(1, 0);
        Check.is("without names", ann.walk(1, 2), "error open");
        Check.is("itself", ann.walk(1, 1), "error open");
        Check.is("ahead of in use", ann.walk(1, 0, "x"), "error open");
        ann.createAt(2, "h", 0x1FF, 3);
        Check.is("open by being created", ann.walk(2, 3), "error open");
        for (int mode = 0; mode < 4; mode++) {
            ann.walk(0, 4, "g");
            ann.open(4, mode);
            Check.is("open with " + mode, ann.walk(4, 5), "error open");
            ann.clunk(4);
        }
    }

    private static void newFidInUse() {
        Check.sentence("newfid is another one and in use: \"inuse\"");
        Client ann = tree();
        ann.walk(0, 1, "g");
        Check.is("in use", ann.walk(0, 1), "error inuse");
        Check.is("ahead of the names", ann.walk(0, 1, "x"), "error inuse");
        Check.is("the other way", ann.walk(1, 0), "error inuse");
        ann.open(1, 0);
        Check.is("in use and open", ann.walk(0, 1), "error inuse");
        Check.is("it stays", ann.stat(1), "g 0.0.4 1fd 0 0 ann ann ann");
        for (int fid = 2; fid < 6; fid++) {
            ann.walk(0, fid);
        }
        Check.is("ahead of the sixth", ann.walk(0, 1), "error inuse");
    }

    private static void newFidIsTheFid() {
        Check.sentence("newfid (also if it is the fid) is at the last node");
        Client ann = tree();
        Check.is("walk", ann.walk(0, 0, "d", "e"), "walked 80.1.1 80.1.2");
        Check.is("it is there", ann.stat(0), "e 80.1.2 800001fd 0 0 ann ann ann");
        Check.is("no more than one", ann.server.fids(0), 1);
        Check.is("and on", ann.walk(0, 0, "f"), "walked 0.0.3");
        Check.is("it is there", ann.stat(0), "f 0.0.3 1fd 0 0 ann ann ann");
    }

    private static void seventhFid() {
        Check.sentence("or there are six: \"fids\"");
        Client ann = tree();
        for (int fid = 1; fid < 5; fid++) {
            Check.is("fid " + fid, ann.walk(0, fid), "walked");
        }
        Check.is("the sixth", ann.walk(0, 5, "d"), "walked 80.1.1");
        Check.is("a seventh", ann.walk(0, 6), "error fids");
        Check.is("ahead of the names", ann.walk(0, 6, "x"), "error fids");
        Check.is("but itself", ann.walk(5, 5, "e"), "walked 80.1.2");
        Check.is("fids", ann.server.fids(0), 6);
    }

    private static void orderOfErrors() {
        Check.sentence("HANDLING, the first error that applies.");
        Client ann = tree();
        ann.attach(1, "cy");
        ann.walk(1, 1, "g");
        Check.is("dir is ahead of perm and noent", ann.walk(1, 2, "x"), "error dir");
        ann.createAt(2, "p", Client.DIR | 0x1C0, 0);
        ann.attach(3, "cy");
        ann.walk(3, 3, "p");
        Check.is("perm is ahead of noent", ann.walk(3, 4, "x"), "error perm");
    }

    private static void noDirectory() {
        Check.sentence("it is no directory: \"dir\"");
        Client ann = tree();
        ann.walk(0, 1, "g");
        for (String name : new String[] {"x", "..", "", ".", "g"}) {
            Check.is("name " + name, ann.walk(1, 2, name), "error dir");
        }
        Check.is("without names", ann.walk(1, 2), "walked");
    }

    private static void mayNotX() {
        Check.sentence("the user may not x: \"perm\"");
        String[] users = {"ann", "bob", "cy"};
        for (int bit = 0; bit < 9; bit++) {
            Client ann = tree();
            ann.walk(0, 1, "d");
            ann.alter(1, new Alteration().mode(Client.DIR | 1 << bit));
            for (int user = 0; user < 3; user++) {
                ann.attach(2, users[user]);
                ann.walk(2, 2, "d");
                boolean may = bit == 0 || bit == 3 && user < 2 || bit == 6 && user == 0;
                Check.is(users[user] + " with mode " + (1 << bit), ann.walk(2, 3, "e"),
                    may ? "walked 80.1.2" : "error perm");
                ann.clunk(2);
                ann.clunk(3);
            }
        }
    }

    private static void mayNotXUpward() {
        Check.sentence("the user may not x: \"perm\"");
        Client ann = tree();
        ann.walk(0, 1, "d");
        ann.alter(1, new Alteration().mode(Client.DIR | 0x1B6));
        Check.is("upward", ann.walk(1, 2, ".."), "error perm");
        Check.is("later", ann.walk(0, 2, "d", ".."), "walked 80.1.1");
        Check.is("without names", ann.walk(1, 2), "walked");
        ann.alter(0, new Alteration().mode(Client.DIR | 0x1B6));
        Check.is("upward from the root", ann.walk(0, 3, ".."), "error perm");
    }

    private static void upward() {
        Check.sentence(".. leads to the directory it is in");
        Client ann = tree();
        Check.is("from e", ann.walk(0, 1, "d", "e", ".."), "walked 80.1.1 80.1.2 80.1.1");
        Check.is("from d", ann.walk(1, 1, ".."), "walked 80.2.0");
        Check.is("there", ann.stat(1), "/ 80.2.0 800001fd 0 0 ann ann ann");
        for (String name : new String[] {"...", "..x", "x..", ". .", "..\u0000"}) {
            Check.is("not " + name, ann.walk(0, 2, name), "error noent");
        }
    }

    private static void upwardFromTheRoot() {
        Check.sentence("(the root: to itself)");
        Client ann = tree();
        Check.is("four times", ann.walk(0, 1, "..", "..", "..", ".."), "walked" + " 80.2.0".repeat(4));
        Check.is("there", ann.stat(1), "/ 80.2.0 800001fd 0 0 ann ann ann");
        Check.is("and on", ann.walk(0, 2, "..", "d", "..", ".."), "walked 80.2.0 80.1.1 80.2.0 80.2.0");
    }

    private static void emptyAndDot() {
        Check.sentence("any other name (an empty one and . too) to the entry of that name, or if "
            + "there is none: \"noent\"");
        Client ann = tree();
        Check.is("empty", ann.walk(0, 1, ""), "error noent");
        Check.is("dot", ann.walk(0, 1, "."), "error noent");
        Check.is("empty, later", ann.walk(0, 1, "d", ""), "walked 80.1.1");
        Check.is("dot, later", ann.walk(0, 1, "d", "."), "walked 80.1.1");
        Check.is("slash", ann.walk(0, 1, "/"), "error noent");
        Check.is("fids", ann.server.fids(0), 1);
    }

    private static void noEntry() {
        Check.sentence("or if there is none: \"noent\"");
        Client ann = tree();
        ann.makeFile("12345678", 0x1FF, "");
        for (String name : new String[] {"D", "dd", "d\u0000", "\u0000d", "e", "1234567", "123456789", "12345679",
            "x".repeat(100)}) {
            Check.is("name " + name, ann.walk(0, 1, name), "error noent");
        }
        Check.is("eight", ann.walk(0, 1, "12345678"), "walked 0.0.5");
    }

    private static void entryOfThatDirectory() {
        Check.sentence("to the entry of that name");
        Client ann = Client.of("ann");
        ann.makeDirectory("a", 0x1FF);
        ann.makeDirectory("b", 0x1FF);
        ann.makeFile("x", 0x1FF, "", "a");
        ann.makeFile("x", 0x1FF, "", "b");
        ann.makeFile("x", 0x1FF, "");
        ann.makeFile("y", 0x1FF, "", "b");
        Check.is("of a", ann.walk(0, 1, "a", "x"), "walked 80.1.1 0.0.3");
        Check.is("of b", ann.walk(0, 2, "b", "x"), "walked 80.2.2 0.0.4");
        Check.is("of the root", ann.walk(0, 3, "x"), "walked 0.0.5");
        Check.is("not of another", ann.walk(0, 4, "y"), "error noent");
        Check.is("not of another, later", ann.walk(0, 4, "a", "y"), "walked 80.1.1");
    }

    private static void errorAtTheFirst() {
        Check.sentence("One of these at the first name is the error");
        Client ann = tree();
        Check.is("and others behind it", ann.walk(0, 1, "x", "d", "e"), "error noent");
        Check.is("itself", ann.walk(0, 0, "x"), "error noent");
        Check.is("it stays", ann.stat(0), "/ 80.2.0 800001fd 0 0 ann ann ann");
        Check.is("fids", ann.server.fids(0), 1);
    }

    private static void errorAtALaterOne() {
        Check.sentence("at a later one the answer is given with the qids so far, and newfid is not made");
        Client ann = tree();
        Check.is("at the second", ann.walk(0, 1, "d", "x"), "walked 80.1.1");
        Check.is("at the third", ann.walk(0, 1, "d", "e", "x", "y"), "walked 80.1.1 80.1.2");
        Check.is("at the fourth", ann.walk(0, 1, "d", "e", "f", ".."), "walked 80.1.1 80.1.2 0.0.3");
        Check.is("no directory", ann.walk(0, 1, "g", "g"), "walked 0.0.4");
        Check.is("not made", ann.server.fids(0), 1);
        Check.is("itself", ann.walk(0, 0, "d", "e", "x"), "walked 80.1.1 80.1.2");
        Check.is("it stays", ann.stat(0), "/ 80.2.0 800001fd 0 0 ann ann ann");
    }

    private static void fourNames() {
        Check.sentence("Answer: number[2] of qids and these.");
        Client ann = tree();
        Check.is("four", ann.walk(0, 1, "d", "e", "..", "e"), "walked 80.1.1 80.1.2 80.1.1 80.1.2");
        Check.is("there", ann.stat(1), "e 80.1.2 800001fd 0 0 ann ann ann");
        Check.is("three", ann.walk(0, 2, "d", "e", "f"), "walked 80.1.1 80.1.2 0.0.3");
        Check.is("one", ann.walk(0, 3, "g"), "walked 0.0.4");
        Check.is("none", ann.walk(0, 4), "walked");
    }

    private static void withoutNames() {
        Check.sentence("(without names: at that of the fid)");
        Client ann = tree();
        ann.walk(0, 1, "d", "e", "f");
        Check.is("of a file", ann.walk(1, 2), "walked");
        Check.is("there", ann.stat(2), "f 0.0.3 1fd 0 0 ann ann ann");
        ann.walk(0, 3, "d");
        Check.is("itself", ann.walk(3, 3), "walked");
        Check.is("there", ann.stat(3), "d 80.1.1 800001fd 0 0 ann ann ann");
        ann.alter(3, new Alteration().mode(Client.DIR));
        Check.is("x is not needed", ann.walk(3, 4), "walked");
    }

    private static void newFidIsNotOpen() {
        Check.sentence("for its user, not open");
        Client ann = tree();
        ann.walk(0, 1, "g");
        ann.open(1, 2);
        ann.clunk(1);
        ann.walk(0, 1, "g");
        Check.is("not to read", ann.read(1, 0, 1), "error open");
        Check.is("not to write", ann.write(1, 0, "x"), "error open");
        Check.is("it can be opened", ann.open(1, 0), "0.0.4");
    }

    private static void newFidIsNotToRemove() {
        Check.sentence("for its user, not open");
        Client ann = tree();
        ann.createAt(1, "r", 0x1FF, 0x40);
        ann.clunk(1);
        Check.is("removed", ann.server.nodes(), 4);
        ann.walk(0, 1, "g");
        ann.clunk(1);
        Check.is("a fid of the same number is not to remove", ann.server.nodes(), 4);
        ann.walk(0, 1, "g");
        ann.open(1, 0);
        ann.server.hangup(0);
        Check.is("nor is it by being opened", ann.server.nodes(), 4);
    }

    private static void newFidHasTheUser() {
        Check.sentence("for its user, not open");
        Client ann = tree();
        ann.attach(1, "cy");
        ann.walk(1, 2, "d");
        Check.is("cy may not w", ann.create(2, "n", 0, 0), "error perm");
        ann.walk(0, 3, "d");
        Check.is("ann may", ann.create(3, "n", 0, 0), "0.0.5");
    }
}
