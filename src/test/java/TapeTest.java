/** Promises 1 (a new object) and 2 (feed). */
public final class TapeTest {
    private static final Due DUE = new Due();

    public static void main(String[] args) {
        newObject();
        octets();
        wrongFeeds();
        fullTape();
        DUE.end();
    }

    private static void newObject() {
        ReadBins x = new ReadBins();
        DUE.is("1: NONE", ReadBins.NONE, -1);
        DUE.is("1: spread", x.told(0), 13);
        DUE.is("1: barcodes", x.told(1), 0);
        DUE.is("1: letters of a barcode", x.told(2), 0);
        DUE.is("1: reads", x.told(3), 0);
        DUE.is("1: place", x.place(), -1);
        DUE.refused("1: about", Due.INDEX, () -> x.about(0, 0));
        DUE.refused("1: out", Due.INDEX, () -> x.out(0));
        DUE.refused("1: bin -1 is not sorted", Due.STATE, () -> x.bin(-1, 0));
        DUE.refused("1: no bin 0", Due.INDEX, () -> x.bin(0, 0));
        DUE.is("1: nothing was written", x.again(), 0);
        DUE.is("1: the tape is empty", x.feed(1, 65), 1);
        firstSettings();
    }

    // Qualities of 0 and an adapter's letters stay, an insert of no letters is short, one of one is not.
    private static void firstSettings() {
        ReadBins x = new ReadBins();
        DUE.is("1: read", Due.read(x, 0, "@a\nACGTACGT\n+\n!!!!!!!!\n@b\nN\n+\nI\n@c\nA\n+\nI\n"), 3);
        DUE.is("1: sort", x.sort(0, 0), 3);
        DUE.is("1: limits are 0, no adapter", Due.sorted(x, 0), "-1 0 8 0 -1");
        DUE.is("1: no letters are short", Due.sorted(x, 1), "-1 1 1 1 -1");
        DUE.is("1: least is 1", Due.sorted(x, 2), "-1 0 1 0 -1");
    }

    private static void octets() {
        ReadBins x = new ReadBins();
        DUE.is("2: the lowest octet first", x.feed(3, 0x0A613EL), 3);
        DUE.is("2: those above n stay away", x.feed(1, 0x4343434343434341L), 4);
        DUE.is("2: eight octets", x.feed(8, 0x0A54474341544743L), 12);
        DUE.is("2: read", x.read(1), 1);
        DUE.is("2: letters", Due.letters(x, 0, 1), "ACGTACGT");
        DUE.is("2: the tape was used up", x.feed(2, 0L), 2);
        highOctet();
    }

    private static void highOctet() {
        ReadBins x = new ReadBins();
        x.feed(2, 0xFF3EL);
        DUE.is("2: an octet above 127 is no sign", x.read(1), -2);
        DUE.is("2: its place", x.place(), 1);
        ReadBins y = new ReadBins();
        y.feed(8, 0xC141414141410A3EL);
        DUE.is("2: the highest bit", y.read(1), -2);
    }

    private static void wrongFeeds() {
        ReadBins x = new ReadBins();
        for (int n : new int[] {0, -1, 9, Integer.MIN_VALUE, Integer.MAX_VALUE}) {
            DUE.refused("2: feed of " + n, Due.ARGUMENT, () -> x.feed(n, 65));
        }
        DUE.is("2: nothing came on the tape", x.feed(1, 65), 1);
    }

    private static void fullTape() {
        ReadBins x = new ReadBins();
        DUE.is("2: 5999 octets", Due.fill(x, 5999), 5999);
        DUE.refused("2: 6001 octets", Due.ARGUMENT, () -> x.feed(2, 65));
        DUE.refused("2: 6007 octets", Due.ARGUMENT, () -> x.feed(8, 65));
        DUE.is("2: 6000 octets", x.feed(1, 65), 6000);
        DUE.refused("2: one more", Due.ARGUMENT, () -> x.feed(1, 65));
    }
}
