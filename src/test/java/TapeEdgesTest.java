/** The edges that the document names of a new object (promise 1), of the tape and of feed (2), each by its words. */
public final class TapeEdgesTest {
    private static final Due DUE = new Due();
    private static final String ONE_READ = "@a\nA\n+\nI\n";

    public static void main(String[] args) {
        noReads();
        noSettings();
        nothingSortedOrWritten();
        objectsByThemselves();
        howManyOctets();
        whichOctets();
        fullTape();
        usedUp();
        wrongFormReadsNothing();
        lastCall();
        DUE.end();
    }

    private static void noReads() {
        ReadBins x = new ReadBins();
        DUE.sentence("No READS, no BARCODES");
        DUE.is("reads", x.told(3), 0);
        DUE.refused("read 0", Due.INDEX, () -> x.about(0, 0));
        DUE.refused("letter of read 0", Due.INDEX, () -> x.letter(0, 0, 0));
        DUE.is("text of all reads", x.write(0, -2, false), 0);
        DUE.is("barcodes", x.told(1), 0);
        DUE.is("letters of a barcode", x.told(2), 0);
        DUE.is("spread", x.told(0), 13);
        DUE.refused("bin 0", Due.INDEX, () -> x.bin(0, 0));
        DUE.is("the first barcode's number", Due.barcode(x, "A"), 0);
    }

    private static void noSettings() {
        DUE.sentence("no ADAPTER; LIMITS 0, LEAST 1");
        ReadBins x = new ReadBins();
        Due.read(x, 0, "@a\nAAAAAAAAACCCGGGTTT\n+\n!!!!!!!!!!!!!!!!!!\n@b\nN\n+\n~\n@c\nA\n+\n!\n");
        DUE.is("sort", x.sort(0, 0), 3);
        DUE.is("no letter goes, by adapter or by limits", Due.sorted(x, 0), "-1 0 18 0 -1");
        DUE.is("no letter is short", Due.sorted(x, 1), "-1 1 1 1 -1");
        DUE.is("one letter is not", Due.sorted(x, 2), "-1 0 1 0 -1");
    }

    private static void nothingSortedOrWritten() {
        DUE.sentence("nothing SORTED or written");
        ReadBins x = new ReadBins();
        DUE.refused("bin", Due.STATE, () -> x.bin(-1, 0));
        DUE.refused("group", Due.STATE, () -> x.group(-1, 0, 0));
        DUE.refused("write", Due.STATE, () -> x.write(0, -1, false));
        DUE.refused("out", Due.INDEX, () -> x.out(0));
        DUE.is("again", x.again(), 0);
        DUE.sentence("NONE before one");
        DUE.is("place", x.place(), ReadBins.NONE);
        DUE.is("NONE", ReadBins.NONE, -1);
    }

    private static void objectsByThemselves() {
        DUE.sentence("No READS, no BARCODES, no ADAPTER; LIMITS 0, LEAST 1; nothing SORTED or written.");
        ReadBins other = new ReadBins();
        Due.barcode(other, "AC");
        Due.adapter(other, "GGG");
        other.limits(93, 93, 120);
        Due.read(other, 1, "A");
        Due.read(other, 1, ">a\nACT\n");
        other.sort(0, 0);
        other.write(0, -2, false);
        other.feed(8, 0);
        ReadBins x = new ReadBins();
        DUE.is("told", x.told(0) + " " + x.told(1) + " " + x.told(2) + " " + x.told(3), "13 0 0 0");
        DUE.is("place", x.place(), -1);
        DUE.refused("out", Due.INDEX, () -> x.out(0));
        DUE.is("tape", Due.feed(x, ">a\nACGGG\n"), 9);
        DUE.is("read", x.read(1), 1);
        DUE.is("sort", x.sort(0, 0), 1);
        DUE.is("no letter goes", Due.sorted(x, 0), "-1 0 5 0 -1");
        DUE.is("the other one's reads stay", Due.letters(other, 0, 1), "ACT");
        DUE.is("the other one's tape stays", other.feed(1, 0), 9);
    }

    private static void howManyOctets() {
        DUE.sentence("n is not 1 .. 8");
        for (int n = 1; n <= 8; n++) {
            ReadBins x = new ReadBins();
            DUE.is("feed " + n, x.feed(n, -1L), n);
            DUE.is("feed " + n + " again", x.feed(n, -1L), 2 * n);
        }
        for (int n : new int[] {0, -1, -8, 9, 16, 1 << 30, Integer.MIN_VALUE, Integer.MAX_VALUE}) {
            ReadBins x = new ReadBins();
            DUE.refused("feed " + n, Due.ARGUMENT, () -> x.feed(n, 65));
            DUE.is("nothing came behind feed " + n, x.feed(1, 65), 1);
        }
    }

    private static void whichOctets() {
        DUE.sentence("The n lowest octets of a long, the lowest first, come behind the tape.");
        String text = ">abcdefgh\n" + "ACGTNACG\n";
        for (int n = 1; n <= 8; n++) {
            ReadBins x = new ReadBins();
            int at = 0;
            while (at < text.length()) {
                int count = Math.min(n, text.length() - at);
                // Octets that are not to come stand above those that are.
                long octets = count == 8 ? 0 : -1L << 8 * count;
                for (int k = 0; k < count; k++) {
                    octets |= (long) text.charAt(at + k) << 8 * k;
                }
                at += count;
                DUE.is("the size, by " + n, x.feed(count, octets), at);
            }
            DUE.is("read what came by " + n, x.read(1), 1);
            DUE.is("the name by " + n, Due.letters(x, 0, 0), "abcdefgh");
            DUE.is("the letters by " + n, Due.letters(x, 0, 1), "ACGTNACG");
        }
    }

    private static void fullTape() {
        DUE.sentence("or there would be more than 6000");
        for (int n = 1; n <= 8; n++) {
            int count = n;
            ReadBins x = new ReadBins();
            DUE.is("before " + n, Due.fill(x, 6000 - n), 6000 - n);
            DUE.is("6000 by " + n, x.feed(n, 0x4141414141414141L), 6000);
            DUE.refused("6000 and " + n, Due.ARGUMENT, () -> x.feed(count, 65));
            ReadBins y = new ReadBins();
            DUE.is("before " + n, Due.fill(y, 6001 - n), 6001 - n);
            DUE.refused("6001 by " + n, Due.ARGUMENT, () -> y.feed(count, 65));
            DUE.is("that changes nothing: what was there is whole", y.read(0) > 0, true);
        }
        DUE.sentence("THE TAPE has at most 6000 octets");
        ReadBins x = new ReadBins();
        DUE.is("6000 octets", Due.fill(x, 6000), 6000);
        DUE.refused("one more", Due.ARGUMENT, () -> x.feed(1, 65));
        DUE.is("a text of 6000 octets", x.read(0), 25);
        DUE.is("its last letter", x.letter(24, 1, x.about(24, 1) - 1), 'C');
        DUE.refused("no letter behind it", Due.INDEX, () -> x.letter(24, 1, x.about(24, 1)));
        DUE.is("the tape is empty again", x.feed(8, 0), 8);
    }

    private static void usedUp() {
        DUE.sentence("what reads it uses it up");
        ReadBins x = new ReadBins();
        DUE.is("read", Due.read(x, 0, ONE_READ), 1);
        DUE.is("behind read", x.feed(1, 65), 1);
        DUE.is("read of a fault", x.read(0), -2);
        DUE.is("behind a fault", x.feed(2, 0x4743), 2);
        DUE.is("barcode", x.barcode(), 0);
        DUE.is("behind a barcode", x.feed(2, 0x4743), 2);
        DUE.is("a barcode that is there", x.barcode(), -1);
        DUE.is("behind a barcode that is none", x.feed(3, 0x474343), 3);
        DUE.is("adapter", x.adapter(), 3);
        DUE.is("behind an adapter", x.feed(2, 0x4743), 2);
        DUE.is("adapter of two letters", x.adapter(), -1);
        DUE.is("behind an adapter that is none", x.feed(1, 65), 1);
        DUE.sentence("a call that throws, or answers NONE, changes nothing (but THE TAPE, where it is read)");
        DUE.is("a fault of a text that ends too early", x.read(1), -2);
        DUE.is("behind it", x.feed(1, '>'), 1);
        DUE.is("fault 1, which is NONE too", x.read(1), ReadBins.NONE);
        DUE.is("behind it", x.feed(1, 65), 1);
    }

    private static void wrongFormReadsNothing() {
        DUE.sentence("IllegalArgumentException: the FORM is not 0 or 1.");
        for (int form : new int[] {-1, 2, 3, Integer.MIN_VALUE, Integer.MAX_VALUE}) {
            ReadBins x = new ReadBins();
            Due.feed(x, ONE_READ);
            DUE.refused("form " + form, Due.ARGUMENT, () -> x.read(form));
            DUE.is("the tape was not read", x.feed(1, 64), 10);
            DUE.is("its octets are there", x.read(0), -1);
            DUE.is("up to the end", x.place(), 10);
        }
    }

    private static void lastCall() {
        DUE.sentence("An object is used for at most 512 calls after it has been made");
        ReadBins x = new ReadBins();
        for (int call = 1; call <= 512; call++) {
            DUE.is("feed as call " + call, x.feed(8, call), 8 * call);
        }
        ReadBins y = new ReadBins();
        Due.read(y, 0, ONE_READ);
        for (int call = 4; call <= 512; call++) {
            DUE.is("sort as call " + call, y.sort(call % 13, call % 2), 1);
        }
    }
}
