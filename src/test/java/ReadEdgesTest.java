import java.util.Arrays;

/** The edges of type 116. */
public final class ReadEdgesTest {
    public static void main(String[] args) {
        notOpen();
        notOpenIsFirst();
        countsOfAFile();
        offsetsOfAFile();
        mostOfADirectoryByCount();
        mostOfADirectoryByMsize();
        mostOfAll();
        wholeStats();
        emptyDirectory();
        fromTheFirst();
        hasNotRead();
        goesOn();
        anyOtherOffset();
        errorIsNoReading();
        latestReadingAlone();
        gaveNothing();
        greaterPath();
        sinceOffset0();
        eachFidOnItsOwn();
        otherReadingsOfTheFid();
        thatOneOnly();
        answers();
        Check.end();
    }

    private static void notOpen() {
        Check.sentence("not open with 0, 2 or 3: \"open\"");
        for (int mode = -1; mode < 4; mode++) {
            Client ann = Client.of("ann");
            ann.makeFile("f", 0x1FF, "abc");
            ann.walk(0, 1, "f");
            if (mode >= 0) {
                ann.open(1, mode);
            }
            Check.is("open with " + mode, ann.read(1, 0, 9), mode < 0 || mode == 1 ? "error open" : "read abc");
        }
        Check.is("a directory", Client.of("ann").read(0, 0, 9), "error open");
    }

    private static void notOpenIsFirst() {
        Check.sentence("HANDLING, the first error that applies.");
        Client ann = Client.of("ann");
        Check.is("ahead of offset", ann.read(0, 5, 9), "error open");
        ann.open(0, 0);
        Check.is("offset", ann.read(0, 5, 9), "error offset");
    }

    private static void countsOfAFile() {
        Check.sentence("At most the lesser of count and MSIZE - 11 bytes: of a file the content from offset on");
        Client ann = Client.of("ann");
        String content = "0123456789abcdef".repeat(4);
        ann.createAt(1, "f", 0x1FF, 2);
        ann.write(1, 0, content);
        for (int count : new int[] {0, 1, 2, 63, 64}) {
            Check.is("count " + count, ann.read(1, 0, count), "read " + content.substring(0, count));
        }
        for (long count : new long[] {65, 116, 117, 118, 128, 0x10000, 0x7FFFFFFF, 0x80000000L, 0xFFFFFFFFL}) {
            Check.is("count " + count, ann.read(1, 0, count), "read " + content);
        }
        Check.is("amid", ann.read(1, 60, 3), "read cde");
        Check.is("to the end", ann.read(1, 60, 4), "read cdef");
        Check.is("over the end", ann.read(1, 60, 5), "read cdef");
        Client least = Client.of("ann");
        least.version(96, "9P2000");
        least.attach(0, "ann");
        least.createAt(1, "f", 0x1FF, 2);
        least.write(1, 0, content);
        Check.is("all, also with the least MSIZE", least.read(1, 0, 100), "read " + content);
    }

    private static void offsetsOfAFile() {
        Check.sentence("(behind its end nothing)");
        Client ann = Client.of("ann");
        ann.createAt(1, "f", 0x1FF, 2);
        Check.is("an empty one at 0", ann.read(1, 0, 9), "read ");
        Check.is("an empty one at 1", ann.read(1, 1, 9), "read ");
        ann.write(1, 0, "abc");
        Check.is("at the last", ann.read(1, 2, 9), "read c");
        Check.is("at the end", ann.read(1, 3, 9), "read ");
        for (long offset : new long[] {4, 64, 65, 255, 256, 0x7FFFFFFF, 0x80000000L, 0x100000000L, 0x100000001L,
            Long.MAX_VALUE, Long.MIN_VALUE, -1, -2, -3}) {
            Check.is("at " + offset, ann.read(1, offset, 9), "read ");
        }
        Check.is("then any other", ann.read(1, 1, 1), "read b");
    }

    /** The directory of fid 1, open, with so many files named a, b, c, ..; each has a stat of 59 bytes. */
    private static Client withEntries(int count) {
        Client ann = Client.of("ann");
        for (int i = 0; i < count; i++) {
            ann.makeFile(String.valueOf((char) ('a' + i)), 0x1FF, "");
        }
        ann.walk(0, 1);
        ann.open(1, 0);
        return ann;
    }

    /** The same with stats of 56 bytes, as all three names in them are cy's. */
    private static Client withShortEntries(int count) {
        Client client = Client.of("ann");
        client.alter(0, new Alteration().mode(Client.DIR | 0x1FF));
        client.attach(1, "cy");
        for (int i = 0; i < count; i++) {
            client.walk(1, 2);
            client.create(2, String.valueOf((char) ('a' + i)), 0x1FF, 0);
            client.alter(2, new Alteration().group("cy"));
            client.clunk(2);
        }
        client.open(1, 0);
        return client;
    }

    private static void mostOfADirectoryByCount() {
        Check.sentence("At most the lesser of count and MSIZE - 11 bytes");
        int[] counts = {0, 1, 55, 56, 57, 111, 112, 113, 116, 117, 118, 1000};
        String[] due = {"0:", "0:", "0:", "56: a", "56: a", "56: a", "112: a b", "112: a b", "112: a b", "112: a b",
            "112: a b", "112: a b"};
        for (int i = 0; i < counts.length; i++) {
            Check.is("count " + counts[i], Client.names(withShortEntries(3).read(1, 0, counts[i])), due[i]);
        }
        Check.is("count 2^31", Client.names(withShortEntries(3).read(1, 0, 0x80000000L)), "112: a b");
        Check.is("count 2^32 - 1", Client.names(withShortEntries(3).read(1, 0, 0xFFFFFFFFL)), "112: a b");
    }

    private static void mostOfADirectoryByMsize() {
        Check.sentence("At most the lesser of count and MSIZE - 11 bytes");
        for (int msize : new int[] {96, 121, 122, 123, 124, 128}) {
            Client cy = withShortEntries(3);
            cy.version(msize, "9P2000");
            cy.attach(1, "cy");
            cy.open(1, 0);
            boolean two = msize - 11 >= 112;
            Check.is("MSIZE " + msize, Client.names(cy.read(1, 0, 1000)), two ? "112: a b" : "56: a");
            Check.is("goes on", Client.names(cy.read(1, two ? 112 : 56, 1000)), two ? "56: c" : "56: b");
        }
    }

    /** Stats of 56 and 61 bytes: as many as an answer of 128 can hold. */
    private static void mostOfAll() {
        Check.sentence("At most the lesser of count and MSIZE - 11 bytes");
        Client cy = withShortEntries(2);
        cy.attach(3, "cy");
        cy.walk(3, 3, "b");
        cy.alter(3, new Alteration().name("bbbbbb"));
        Check.is("116", Client.names(cy.read(1, 0, 116)), "56: a");
        Check.is("117", Client.names(cy.read(1, 0, 117)), "117: a bbbbbb");
        cy.alter(3, new Alteration().name("bbbbbbb"));
        Check.is("118 is too much", Client.names(cy.read(1, 0, 118)), "56: a");
        cy.alter(3, new Alteration().name("bbbbbb"));
        cy.version(127, "9P2000");
        cy.attach(1, "cy");
        cy.open(1, 0);
        Check.is("MSIZE 127", Client.names(cy.read(1, 0, 117)), "56: a");
    }

    private static void wholeStats() {
        Check.sentence("of a directory the stats of entries, as many whole ones as fit");
        Client ann = withEntries(2);
        Check.is("58", Client.names(ann.read(1, 0, 58)), "0:");
        Check.is("59", Client.names(ann.read(1, 0, 59)), "59: a");
        Check.is("117", Client.names(ann.read(1, 0, 117)), "59: a");
        Check.is("118, but MSIZE - 11 is less", Client.names(ann.read(1, 0, 118)), "59: a");
        Check.is("the second", Client.names(ann.read(1, 59, 59)), "59: b");
    }

    private static void emptyDirectory() {
        Check.sentence("of a directory the stats of entries, as many whole ones as fit");
        Client ann = withEntries(0);
        Check.is("none", Client.names(ann.read(1, 0, 1000)), "0:");
        Check.is("none again", Client.names(ann.read(1, 0, 1000)), "0:");
        Check.is("offset 1", ann.read(1, 1, 1000), "error offset");
        ann.makeFile("n", 0x1FF, "");
        Check.is("from the first one, if they gave none", Client.names(ann.read(1, 0, 1000)), "59: n");
    }

    private static void fromTheFirst() {
        Check.sentence("with offset 0 from the first one on");
        Client ann = withEntries(3);
        Check.is("first", Client.names(ann.read(1, 0, 60)), "59: a");
        Check.is("again", Client.names(ann.read(1, 0, 60)), "59: a");
        Check.is("goes on", Client.names(ann.read(1, 59, 60)), "59: b");
        Check.is("again", Client.names(ann.read(1, 0, 60)), "59: a");
        Check.is("goes on from there", Client.names(ann.read(1, 59, 60)), "59: b");
        Check.is("to the end", Client.names(ann.read(1, 118, 60)), "59: c");
        Check.is("no more", Client.names(ann.read(1, 177, 60)), "0:");
        Check.is("again", Client.names(ann.read(1, 0, 60)), "59: a");
    }

    private static void hasNotRead() {
        Check.sentence("(none for a fid that has not read)");
        Client ann = withEntries(3);
        for (long offset : new long[] {1, 58, 59, 60, 0x100, 0x100000000L, Long.MIN_VALUE, -1}) {
            Check.is("offset " + offset, ann.read(1, offset, 60), "error offset");
        }
        Check.is("offset 0", Client.names(ann.read(1, 0, 60)), "59: a");
        ann.clunk(1);
        ann.walk(0, 1);
        ann.open(1, 0);
        for (long offset : new long[] {1, 59}) {
            Check.is("a new one of that number, offset " + offset, ann.read(1, offset, 60), "error offset");
        }
    }

    private static void goesOn() {
        Check.sentence("with the offset of the fid's latest reading (one that was an error is none) plus the bytes "
            + "that it gave");
        Client cy = withShortEntries(5);
        Check.is("two", Client.names(cy.read(1, 0, 117)), "112: a b");
        Check.is("one", Client.names(cy.read(1, 112, 60)), "56: c");
        Check.is("two", Client.names(cy.read(1, 168, 117)), "112: d e");
        Check.is("none", Client.names(cy.read(1, 280, 117)), "0:");
        Check.is("none", Client.names(cy.read(1, 280, 117)), "0:");
    }

    private static void anyOtherOffset() {
        Check.sentence("with any other: \"offset\"");
        Client ann = withEntries(3);
        ann.read(1, 0, 60);
        for (long offset : new long[] {1, 58, 60, 118, 59 + 0x100, 59 + 0x10000, 59 + 0x100000000L,
            59 + 0x100000000000000L, 59 | Long.MIN_VALUE, -1}) {
            Check.is("offset " + offset, ann.read(1, offset, 60), "error offset");
        }
        Check.is("the right one", Client.names(ann.read(1, 59, 60)), "59: b");
        Check.is("the one before", ann.read(1, 59, 60), "error offset");
    }

    private static void errorIsNoReading() {
        Check.sentence("(one that was an error is none)");
        Client ann = withEntries(3);
        Check.is("first", Client.names(ann.read(1, 0, 60)), "59: a");
        Check.is("wrong", ann.read(1, 7, 60), "error offset");
        Check.is("nor does it go on from there", ann.read(1, 7, 60), "error offset");
        Check.is("form", ann.send(116, new Bytes().number(1, 4).number(0, 8).all()), "error form");
        Check.is("goes on", Client.names(ann.read(1, 59, 60)), "59: b");
    }

    private static void latestReadingAlone() {
        Check.sentence("with the offset of the fid's latest reading");
        Client ann = withEntries(3);
        ann.read(1, 0, 60);
        ann.read(1, 59, 60);
        ann.read(1, 0, 60);
        Check.is("118 was of an earlier one", ann.read(1, 118, 60), "error offset");
        Check.is("59 is of the latest", Client.names(ann.read(1, 59, 60)), "59: b");
        ann.read(1, 0, 10);
        Check.is("the latest gave none", ann.read(1, 59, 60), "error offset");
        Check.is("so it goes on at 0", Client.names(ann.read(1, 0, 60)), "59: a");
    }

    private static void gaveNothing() {
        Check.sentence("plus the bytes that it gave");
        Client ann = withEntries(3);
        ann.read(1, 0, 60);
        Check.is("none fits", Client.names(ann.read(1, 59, 58)), "0:");
        Check.is("count 0", Client.names(ann.read(1, 59, 0)), "0:");
        Check.is("the same offset goes on", Client.names(ann.read(1, 59, 59)), "59: b");
    }

    private static void greaterPath() {
        Check.sentence("from the first entry with a greater path than the last one that its readings gave");
        Client ann = withEntries(4);
        ann.read(1, 0, 60);
        ann.read(1, 59, 60);
        ann.walk(0, 2, "b");
        ann.remove(2);
        ann.walk(0, 2, "c");
        ann.remove(2);
        Check.is("behind those removed", Client.names(ann.read(1, 118, 60)), "59: d");
        ann.makeFile("a2", 0x1FF, "");
        Check.is("a new one", Client.names(ann.read(1, 177, 60)), "60: a2");
        Check.is("no more", Client.names(ann.read(1, 237, 60)), "0:");
    }

    private static void sinceOffset0() {
        Check.sentence("that its readings gave since offset 0 (from the first one, if they gave none)");
        Client ann = withEntries(3);
        ann.read(1, 0, 60);
        ann.read(1, 59, 60);
        Check.is("nothing at 0", Client.names(ann.read(1, 0, 0)), "0:");
        Check.is("then from the first", Client.names(ann.read(1, 0, 60)), "59: a");
        ann.read(1, 59, 60);
        Check.is("not what was given ahead of that", Client.names(ann.read(1, 118, 60)), "59: c");
        Client other = withEntries(1);
        other.walk(0, 2, "a");
        other.remove(2);
        Check.is("they gave none", Client.names(other.read(1, 0, 60)), "0:");
        other.makeFile("n", 0x1FF, "");
        Check.is("from the first", Client.names(other.read(1, 0, 60)), "59: n");
    }

    private static void eachFidOnItsOwn() {
        Check.sentence("the fid's latest reading");
        Client ann = withEntries(3);
        ann.walk(0, 2);
        ann.open(2, 0);
        ann.read(1, 0, 60);
        Check.is("the other has not read", ann.read(2, 59, 60), "error offset");
        ann.read(1, 59, 60);
        Check.is("the other", Client.names(ann.read(2, 0, 60)), "59: a");
        Check.is("the one", Client.names(ann.read(1, 118, 60)), "59: c");
        Check.is("the other", Client.names(ann.read(2, 59, 60)), "59: b");
    }

    private static void otherReadingsOfTheFid() {
        Check.sentence("the fid's latest reading");
        Client ann = withEntries(3);
        ann.read(1, 0, 60);
        ann.stat(1);
        ann.walk(0, 2, "a");
        ann.alter(2, new Alteration().name("long"));
        Check.is("other messages are none", Client.names(ann.read(1, 59, 60)), "59: b");
        Check.is("a longer stat is told as it is", Client.names(ann.read(1, 0, 62)), "62: long");
        Check.is("and goes on behind it", Client.names(ann.read(1, 62, 60)), "59: b");
    }

    private static void thatOneOnly() {
        Check.sentence("of a directory the stats of entries");
        Client ann = Client.of("ann");
        ann.makeDirectory("d", 0x1FF);
        ann.makeFile("x", 0x1FF, "abc", "d");
        ann.makeFile("y", 0x1FF, "");
        ann.walk(0, 1, "d");
        ann.open(1, 0);
        Check.is("of d", Client.names(ann.read(1, 0, 60)), "59: x");
        Check.is("no more", Client.names(ann.read(1, 59, 60)), "0:");
        ann.open(0, 0);
        Check.is("of the root", Client.names(ann.read(0, 0, 60)), "59: d");
        Check.is("of the root", Client.names(ann.read(0, 59, 60)), "59: y");
        Check.is("no more", Client.names(ann.read(0, 118, 60)), "0:");
    }

    private static void answers() {
        Check.sentence("Answer: number[4] and bytes.");
        Client ann = Client.of("ann");
        ann.createAt(1, "f", 0x1FF, 2);
        ann.write(1, 0, "\u0000\u0001\u007f\u0080\u00ff");
        byte[] answer = ann.ask(116, 3, new Bytes().number(1, 4).number(1, 8).number(9, 4).all());
        Check.is("answer", Arrays.toString(answer), Arrays.toString(new Bytes().number(15, 4)
            .number(117, 1).number(3, 2).number(4, 4).raw("\u0001\u007f\u0080\u00ff").all()));
    }
}
