/** Promise 2: type 116. */
public final class ReadTest {
    public static void main(String[] args) {
        files();
        openModes();
        directories();
        directoriesThatChange();
        offsets();
        msizes();
        Check.end();
    }

    private static void files() {
        Client ann = Client.of("ann");
        ann.createAt(1, "f", 0x1FF, 2);
        ann.write(1, 0, "0123456789");
        Check.is("all", ann.read(1, 0, 10), "read 0123456789");
        Check.is("more", ann.read(1, 0, 0xFFFFFFFFL), "read 0123456789");
        Check.is("some", ann.read(1, 3, 4), "read 3456");
        Check.is("none", ann.read(1, 3, 0), "read ");
        Check.is("last", ann.read(1, 9, 4), "read 9");
        Check.is("end", ann.read(1, 10, 4), "read ");
        Check.is("behind", ann.read(1, 11, 4), "read ");
        Check.is("far behind", ann.read(1, 0x100000000L, 4), "read ");
        Check.is("without sign", ann.read(1, -1, 4), "read ");
        Check.is("without sign", ann.read(1, Long.MIN_VALUE, 4), "read ");
        Check.is("any order", ann.read(1, 1, 1), "read 1");
        Check.is("unchanged", ann.stat(1), "f 0.1.1 1fd 0 10 ann ann ann");
    }

    private static void openModes() {
        Client ann = Client.of("ann");
        ann.createAt(1, "f", 0x1FF, 1);
        ann.write(1, 0, "abc");
        Check.is("open to write", ann.read(1, 0, 9), "error open");
        String[] due = {"read abc", "error open", "read abc", "read abc"};
        for (int mode = 0; mode < 4; mode++) {
            ann.walk(0, 2, "f");
            Check.is("not open", ann.read(2, 0, 9), "error open");
            ann.open(2, mode);
            Check.is("open with " + mode, ann.read(2, 0, 9), due[mode]);
            ann.clunk(2);
        }
        Check.is("directory not open", ann.read(0, 0, 9), "error open");
        Check.is("ahead of the offset", ann.read(0, 5, 9), "error open");
    }

    /** ann with entries of this many in the root, named a, b, c, ..; each has a stat of 59 bytes. */
    private static Client withEntries(int count) {
        Client ann = Client.of("ann");
        for (int i = 0; i < count; i++) {
            ann.createAt(1, String.valueOf((char) ('a' + i)), 0x1FF, 0);
            ann.clunk(1);
        }
        ann.walk(0, 1);
        ann.open(1, 0);
        return ann;
    }

    private static void directories() {
        Client ann = withEntries(3);
        Check.is("too few", Client.names(ann.read(1, 0, 58)), "0:");
        Check.is("one", Client.names(ann.read(1, 0, 59)), "59: a");
        Check.is("one", Client.names(ann.read(1, 0, 117)), "59: a");
        Check.is("next", Client.names(ann.read(1, 59, 117)), "59: b");
        Check.is("too few", Client.names(ann.read(1, 118, 58)), "0:");
        Check.is("next", Client.names(ann.read(1, 118, 1000)), "59: c");
        Check.is("end", Client.names(ann.read(1, 177, 1000)), "0:");
        Check.is("end", Client.names(ann.read(1, 177, 1000)), "0:");
        Check.is("again", Client.names(ann.read(1, 0, 1000)), "59: a");
        Check.is("count of 2^31", Client.names(ann.read(1, 59, 0x80000000L)), "59: b");
        ann.walk(0, 2);
        ann.open(2, 0);
        Check.is("another fid", Client.names(ann.read(2, 0, 100)), "59: a");
        Check.is("is on its own", Client.names(ann.read(1, 118, 100)), "59: c");
        Check.is("stat", ann.read(2, 59, 59), "read " + Bytes.textIn(new Bytes().number(57, 2).number(0, 6)
            .number(0, 1).number(0, 4).number(2, 8).number(0x1FD, 4).number(0, 8).number(0, 8)
            .text("b").text("ann").text("ann").text("ann").all(), 0, 59));
    }

    private static void directoriesThatChange() {
        Client ann = withEntries(4);
        Check.is("first", Client.names(ann.read(1, 0, 60)), "59: a");
        Check.is("second", Client.names(ann.read(1, 59, 60)), "59: b");
        ann.walk(0, 2, "b");
        ann.remove(2);
        ann.walk(0, 2, "a");
        ann.remove(2);
        Check.is("goes on behind those removed", Client.names(ann.read(1, 118, 60)), "59: c");
        ann.walk(0, 2, "d");
        ann.remove(2);
        Check.is("no more", Client.names(ann.read(1, 177, 60)), "0:");
        ann.createAt(2, "a", 0x1FF, 0);
        Check.is("a new one", Client.names(ann.read(1, 177, 100)), "59: a");
        ann.alter(2, new Alteration().name("zz"));
        Check.is("named anew it keeps its place", Client.names(ann.read(1, 0, 100)), "59: c");
        Check.is("and is told with its name", Client.names(ann.read(1, 59, 100)), "60: zz");
        ann.walk(0, 3);
        ann.clunk(2);
        ann.walk(0, 2, "c");
        ann.remove(2);
        ann.walk(0, 2, "zz");
        ann.remove(2);
        Check.is("empty", Client.names(ann.read(1, 0, 100)), "0:");
        ann.create(3, "n", 0x1FF, 0);
        Check.is("from the first one, if none was given", Client.names(ann.read(1, 0, 100)), "59: n");
    }

    private static void offsets() {
        Client ann = withEntries(3);
        Check.is("has not read", ann.read(1, 59, 100), "error offset");
        Check.is("has not read", ann.read(1, -1, 100), "error offset");
        Check.is("first", Client.names(ann.read(1, 0, 100)), "59: a");
        Check.is("wrong", ann.read(1, 58, 100), "error offset");
        Check.is("wrong", ann.read(1, 118, 100), "error offset");
        Check.is("wrong", ann.read(1, 59 + 0x100000000L, 100), "error offset");
        Check.is("an error is no reading", Client.names(ann.read(1, 59, 100)), "59: b");
        Check.is("the one before", ann.read(1, 59, 100), "error offset");
        Check.is("nothing given", Client.names(ann.read(1, 118, 0)), "0:");
        Check.is("the same offset then", Client.names(ann.read(1, 118, 100)), "59: c");
        Check.is("nothing at 0", Client.names(ann.read(1, 0, 0)), "0:");
        Check.is("then nothing else goes on", ann.read(1, 177, 100), "error offset");
        Check.is("then nothing else goes on", ann.read(1, 59, 100), "error offset");
        Check.is("but 0", Client.names(ann.read(1, 0, 100)), "59: a");
        ann.clunk(1);
        ann.walk(0, 1);
        ann.open(1, 0);
        Check.is("a new fid of the same number has not read", ann.read(1, 59, 100), "error offset");
    }

    private static void msizes() {
        Client ann = Client.of("ann");
        ann.createAt(1, "f", 0x1FF, 1);
        ann.write(1, 0, "0123456789012345678901234567890123456789012345678901234567890123");
        ann.createAt(2, "d", Client.DIR | 0x1FF, 0);
        ann.version(96, "9P2000");
        ann.attach(0, "ann");
        ann.walk(0, 1, "f");
        ann.open(1, 0);
        Check.is("all 64", ann.read(1, 0, 85).length(), 5 + 64);
        ann.open(0, 0);
        Check.is("one entry within 85", Client.names(ann.read(0, 0, 1000)), "59: f");

        // Names of eight: two stats are 132, more than 128 - 11.
        ann = Client.of("ann");
        ann.createAt(1, "12345678", 0x1FF, 1);
        ann.createAt(2, "abcdefgh", 0x1FF, 1);
        ann.open(0, 0);
        Check.is("one within 117", Client.names(ann.read(0, 0, 1000)), "66: 12345678");

        twoEntriesAtOnce();
    }

    // Two stats fit into 117 bytes only if the texts are short: 47 + 2 + 1 + 3 * 2 = 56 each for cy's own.
    private static void twoEntriesAtOnce() {
        TreeServer server = new TreeServer();
        Client ann = Client.of(server, 0, "ann");
        ann.alter(0, new Alteration().mode(Client.DIR | 0x1FF));
        Client cy = Client.of(server, 1, "cy");
        for (String name : new String[] {"a", "b", "c"}) {
            cy.createAt(1, name, 0x1FF, 0);
            cy.alter(1, new Alteration().group("cy"));
            cy.clunk(1);
        }
        cy.open(0, 0);
        Check.is("two", Client.names(cy.read(0, 0, 112)), "112: a b");
        Check.is("one", Client.names(cy.read(0, 0, 111)), "56: a");
        Check.is("two", Client.names(cy.read(0, 56, 1000)), "112: b c");
        Check.is("none", Client.names(cy.read(0, 168, 1000)), "0:");
        cy.version(122, "9P2000");
        cy.attach(0, "cy");
        cy.open(0, 0);
        Check.is("122 - 11 is one too few", Client.names(cy.read(0, 0, 1000)), "56: a");
        cy.version(123, "9P2000");
        cy.attach(0, "cy");
        cy.open(0, 0);
        Check.is("123 - 11 is enough", Client.names(cy.read(0, 0, 1000)), "112: a b");
    }
}
