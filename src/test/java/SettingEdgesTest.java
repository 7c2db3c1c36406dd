/** The edges that the document names of barcode, adapter, limits and told (promises 5 to 8), each by its words. */
public final class SettingEdgesTest {
    private static final Due DUE = new Due();
    private static final int[] FAR = {Integer.MIN_VALUE, -1000, -2, 1000, Integer.MAX_VALUE};

    public static void main(String[] args) {
        lettersOfBarcodes();
        sizesOfBarcodes();
        barcodesThatAreThere();
        seventeenth();
        spreads();
        sizesOfAdapters();
        lettersOfAdapters();
        adapterStays();
        limitsWithinBounds();
        limitsStay();
        wrongWhats();
        DUE.end();
    }

    private static String told(ReadBins x) {
        return x.told(0) + " " + x.told(1) + " " + x.told(2) + " " + x.told(3);
    }

    private static void lettersOfBarcodes() {
        DUE.sentence("NONE when it is not 1 .. 12 LETTERS A C G T");
        for (char octet = 0; octet < 256; octet++) {
            int due = "ACGT".indexOf(octet) >= 0 ? 0 : -1;
            for (String text : new String[] {"" + octet, octet + "AC", "A" + octet + "C", "AC" + octet}) {
                ReadBins x = new ReadBins();
                DUE.is("octet " + (int) octet + " in a barcode", Due.barcode(x, text), due);
                DUE.is("told", told(x), due == 0 ? "13 1 " + text.length() + " 0" : "13 0 0 0");
            }
        }
    }

    private static void sizesOfBarcodes() {
        DUE.sentence("all with the same number of LETTERS (A C G T), 1 .. 12");
        for (int size = 0; size <= 14; size++) {
            ReadBins x = new ReadBins();
            boolean good = size >= 1 && size <= 12;
            DUE.is(size + " letters", Due.barcode(x, "ACGTACGTACGTACGT".substring(0, size)), good ? 0 : -1);
            DUE.is("told", told(x), good ? "13 1 " + size + " 0" : "13 0 0 0");
            DUE.is("the tape was used up", x.feed(1, 65), 1);
        }
        DUE.sentence("not as many as the others have");
        for (int size = 1; size <= 12; size++) {
            ReadBins x = new ReadBins();
            Due.barcode(x, "A".repeat(size));
            for (int other = 0; other <= 13; other++) {
                DUE.is(other + " letters behind " + size, Due.barcode(x, "C".repeat(other)), other == size ? 1 : -1);
                DUE.is("letters of one", x.told(2), size);
                DUE.is("barcodes", x.told(1), other < size ? 1 : 2);
            }
        }
        DUE.sentence("a call that throws, or answers NONE, changes nothing (but THE TAPE, where it is read)");
        ReadBins x = new ReadBins();
        DUE.is("a barcode that is none", Due.barcode(x, "ACN"), -1);
        DUE.is("does not say how many letters the first has", Due.barcode(x, "AC"), 0);
    }

    private static void barcodesThatAreThere() {
        DUE.sentence("there already");
        ReadBins x = new ReadBins();
        String[] barcodes = {"AAA", "ACG", "TTT"};
        for (int b = 0; b < 3; b++) {
            DUE.is("number " + b, Due.barcode(x, barcodes[b]), b);
            for (int there = 0; there <= b; there++) {
                DUE.is(barcodes[there] + " again", Due.barcode(x, barcodes[there]), -1);
            }
            DUE.is("barcodes", x.told(1), b + 1);
        }
        DUE.is("spread", x.told(0), 2);
        DUE.is("one that differs at its end", Due.barcode(x, "AAC"), 3);
        DUE.is("one that differs at its beginning", Due.barcode(x, "CAA"), 4);
    }

    private static void seventeenth() {
        DUE.sentence("BARCODES: at most 16");
        ReadBins x = new ReadBins();
        for (int b = 0; b < 16; b++) {
            DUE.is("number " + b, Due.barcode(x, pair(b) + pair(b)), b);
            DUE.is("barcodes", x.told(1), b + 1);
        }
        DUE.sentence("or the 17th");
        DUE.is("the 17th", Due.barcode(x, "AACC"), -1);
        DUE.is("told", told(x), "2 16 4 0");
        DUE.is("the tape was used up", x.feed(1, 65), 1);
        DUE.is("none of other letters either", x.barcode(), -1);
        StringBuilder text = new StringBuilder();
        for (int b = 0; b < 16; b++) {
            text.append(">r\n").append(pair(b)).append(pair(b)).append("\n");
        }
        Due.read(x, 1, text + ">r\nAACC\n");
        DUE.is("sort", x.sort(0, 0), 1);
        for (int b = 0; b < 16; b++) {
            DUE.is("bin of barcode " + b, x.about(b, 2), b);
        }
        DUE.is("the 17th has none", x.about(16, 2), -1);
        DUE.is("the last bin", x.bin(15, 0), 1);
        DUE.refused("there is no bin 16", Due.INDEX, () -> x.bin(16, 0));
    }

    private static String pair(int b) {
        return "" + "ACGT".charAt(b / 4) + "ACGT".charAt(b % 4);
    }

    private static void spreads() {
        DUE.sentence("SPREAD is the least one of two BARCODES (13, if there are less than two)");
        ReadBins none = new ReadBins();
        DUE.is("no barcode", none.told(0), 13);
        for (int size = 1; size <= 12; size++) {
            for (int differing = 1; differing <= size; differing++) {
                ReadBins x = new ReadBins();
                Due.barcode(x, "A".repeat(size));
                DUE.is("one barcode", x.told(0), 13);
                Due.barcode(x, "A".repeat(size - differing) + "C".repeat(differing));
                DUE.is("two of " + size + " letters", x.told(0), differing);
            }
        }
        ReadBins x = new ReadBins();
        String[] barcodes = {"AAAAAA", "CCCCCC", "GGGGGG", "GGGGTT", "CCCCCA", "TTTTTT"};
        int[] due = {13, 6, 6, 2, 1, 1};
        for (int b = 0; b < barcodes.length; b++) {
            Due.barcode(x, barcodes[b]);
            DUE.is("with " + barcodes[b], x.told(0), due[b]);
        }
    }

    private static void sizesOfAdapters() {
        DUE.sentence("NONE when it is not 3 .. 30 LETTERS A C G T");
        String letters = "ACGT".repeat(8);
        for (int size = 1; size <= 32; size++) {
            ReadBins x = new ReadBins();
            DUE.is(size + " letters", Due.adapter(x, letters.substring(0, size)), size >= 3 && size <= 30 ? size : -1);
            DUE.is("the tape was used up", x.feed(1, 65), 1);
        }
        ReadBins x = new ReadBins();
        DUE.is("6000 octets", Due.fill(x, 6000), 6000);
        DUE.is("6000 octets are none", x.adapter(), -1);
        DUE.is("the tape was used up", x.feed(1, 65), 1);
        DUE.is("one letter is none", x.adapter(), -1);
        DUE.sentence("The tape is read as the ADAPTER (no octet: there is none then).");
        DUE.is("no octet", x.adapter(), 0);
        Due.adapter(x, "ACG");
        Due.read(x, 1, ">a\nTTACGTT\n");
        x.sort(0, 0);
        DUE.is("with one", x.about(0, 4), 2);
        DUE.is("no octet", x.adapter(), 0);
        x.sort(0, 0);
        DUE.is("without one", x.about(0, 4), 7);
    }

    private static void lettersOfAdapters() {
        DUE.sentence("NONE when it is not 3 .. 30 LETTERS A C G T");
        for (char octet = 0; octet < 256; octet++) {
            int due = "ACGT".indexOf(octet) >= 0 ? 3 : -1;
            for (String text : new String[] {octet + "CG", "A" + octet + "G", "AC" + octet}) {
                DUE.is("octet " + (int) octet + " in an adapter", Due.adapter(new ReadBins(), text), due);
            }
            DUE.is("octet " + (int) octet + " behind 30", Due.adapter(new ReadBins(), "A".repeat(30) + octet), -1);
        }
    }

    private static void adapterStays() {
        DUE.sentence("a call that throws, or answers NONE, changes nothing (but THE TAPE, where it is read)");
        for (String none : new String[] {"T", "TT", "TTN", "TTT\n", "T".repeat(31), "ttt"}) {
            ReadBins x = new ReadBins();
            DUE.is("adapter", Due.adapter(x, "ACGTA"), 5);
            DUE.is("none", Due.adapter(x, none), -1);
            Due.read(x, 1, ">a\nTTTTACGTATT\n");
            x.sort(0, 0);
            DUE.is("the one before " + none.replace('\n', '|'), x.about(0, 4), 4);
        }
    }

    // Each of the three has an answer of its own: where inserts begin and end, and whether they are short.
    private static String cuts(ReadBins x) {
        Due.read(x, 0, "@a\nAAAAAA\n+\n0555.5\n@b\nAAAAAA\n+\n555550\n@c\nAAAAA\n+\n55555\n@d\nAAAA\n+\n1551\n");
        x.sort(0, 0);
        StringBuilder text = new StringBuilder();
        for (int i = 0; i < 4; i++) {
            text.append(x.about(i, 3)).append(x.about(i, 4)).append(x.about(i, 5)).append(" ");
        }
        return text.toString();
    }

    private static void limitsWithinBounds() {
        DUE.sentence("LIMITS at the beginning and at the end (0 .. 93), and LEAST (0 .. 120).");
        ReadBins x = new ReadBins();
        for (int value : new int[] {0, 1, 50, 92, 93}) {
            DUE.is("limits " + value, x.limits(value, 0, 1) && x.limits(0, value, 1) && x.limits(value, value, 1), true);
        }
        for (int value : new int[] {0, 1, 60, 119, 120}) {
            DUE.is("least " + value, x.limits(0, 0, value), true);
        }
        for (int value : new int[] {-1, 94, 120}) {
            DUE.is("limit " + value + " at the beginning", x.limits(value, 0, 1), false);
            DUE.is("limit " + value + " at the end", x.limits(0, value, 1), false);
        }
        for (int value : new int[] {-1, 121}) {
            DUE.is("least " + value, x.limits(0, 0, value), false);
        }
        for (int value : FAR) {
            DUE.is("far " + value, x.limits(value, 0, 1) || x.limits(0, value, 1) || x.limits(0, 0, value), false);
            DUE.is("all far " + value, x.limits(value, value, value), false);
        }
    }

    private static void limitsStay() {
        DUE.sentence("Answers whether they are so; if not, they stay.");
        ReadBins first = new ReadBins();
        DUE.is("limits", first.limits(16, 17, 5), true);
        String due = "160 050 050 031 ";
        DUE.is("cut by them", cuts(first), due);
        int[][] wrong = {{-1, 0, 1}, {94, 0, 1}, {0, -1, 1}, {0, 94, 1}, {0, 0, -1}, {0, 0, 121}, {93, 93, 121}, {93, 94, 120},
            {94, 93, 120}};
        for (int[] three : wrong) {
            ReadBins x = new ReadBins();
            x.limits(16, 17, 5);
            String what = three[0] + ", " + three[1] + ", " + three[2];
            DUE.is(what, x.limits(three[0], three[1], three[2]), false);
            DUE.is("cut behind " + what, cuts(x), due);
        }
        DUE.is("others", first.limits(0, 0, 0), true);
        DUE.is("cut by others", cuts(first), "060 060 050 040 ");
        ReadBins none = new ReadBins();
        DUE.is("wrong ones", none.limits(93, 93, 121), false);
        DUE.is("as in a new object", cuts(none), "060 060 050 040 ");
    }

    private static void wrongWhats() {
        DUE.sentence("SPREAD (what = 0), how many BARCODES there are (1), LETTERS of one (2; 0 without any), READS (3).");
        ReadBins x = new ReadBins();
        DUE.is("of a new object", told(x), "13 0 0 0");
        Due.barcode(x, "ACGTA");
        DUE.is("with a barcode", told(x), "13 1 5 0");
        Due.barcode(x, "ACGGG");
        DUE.is("with two", told(x), "2 2 5 0");
        Due.read(x, 1, ">a\nA\n".repeat(60));
        DUE.is("with 60 reads", told(x), "2 2 5 60");
        DUE.sentence("IndexOutOfBoundsException: another what.");
        for (int what : new int[] {-1, 4, 5}) {
            DUE.refused("told " + what, Due.INDEX, () -> x.told(what));
        }
        for (int what : FAR) {
            DUE.refused("told " + what, Due.INDEX, () -> x.told(what));
        }
        DUE.is("nothing changed", told(x), "2 2 5 60");
    }
}
