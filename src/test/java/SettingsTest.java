/** Promises 5 (barcode), 6 (adapter), 7 (limits) and 8 (told). */
public final class SettingsTest {
    private static final Due DUE = new Due();

    public static void main(String[] args) {
        barcodes();
        wrongBarcodes();
        sixteenBarcodes();
        spreads();
        adapters();
        limits();
        wrongWhats();
        DUE.end();
    }

    private static void barcodes() {
        ReadBins x = new ReadBins();
        DUE.is("5: the first", Due.barcode(x, "ACGTACGTACGT"), 0);
        DUE.is("8: letters", x.told(2), 12);
        DUE.is("8: one has no spread", x.told(0), 13);
        DUE.is("5: the second", Due.barcode(x, "TGCATGCATGCA"), 1);
        DUE.is("8: spread", x.told(0), 12);
        DUE.is("8: barcodes", x.told(1), 2);
        DUE.is("5: the tape was used up", x.feed(1, 65), 1);
        ReadBins y = new ReadBins();
        DUE.is("5: of one letter", Due.barcode(y, "G"), 0);
        DUE.is("8: letters", y.told(2), 1);
    }

    private static void wrongBarcodes() {
        ReadBins x = new ReadBins();
        DUE.is("5: no letters", x.barcode(), -1);
        DUE.is("5: 13 letters", Due.barcode(x, "A".repeat(13)), -1);
        DUE.is("5: N", Due.barcode(x, "AN"), -1);
        DUE.is("5: a small letter", Due.barcode(x, "a"), -1);
        DUE.is("5: a line end", Due.barcode(x, "AC\n"), -1);
        DUE.is("8: no barcode", x.told(1), 0);
        DUE.is("8: no letters", x.told(2), 0);
        DUE.is("5: the tape was used up", Due.barcode(x, "AC"), 0);
        DUE.is("5: less letters", Due.barcode(x, "A"), -1);
        DUE.is("5: more letters", Due.barcode(x, "ACG"), -1);
        DUE.is("5: there already", Due.barcode(x, "AC"), -1);
        DUE.is("8: spread", x.told(0), 13);
        DUE.is("8: letters", x.told(2), 2);
        DUE.is("5: the next", Due.barcode(x, "AG"), 1);
        DUE.is("5: there already", Due.barcode(x, "AG"), -1);
        DUE.is("8: barcodes", x.told(1), 2);
    }

    private static void sixteenBarcodes() {
        ReadBins x = new ReadBins();
        for (int b = 0; b < 16; b++) {
            DUE.is("5: number " + b, Due.barcode(x, "A" + "ACGT".charAt(b / 4) + "ACGT".charAt(b % 4)), b);
        }
        DUE.is("5: the 17th", Due.barcode(x, "TTT"), -1);
        DUE.is("8: barcodes", x.told(1), 16);
        Due.read(x, 1, ">a\nATT\n");
        x.sort(0, 0);
        DUE.is("10: in the last bin", x.about(0, 2), 15);
        DUE.is("12: the last bin", x.bin(15, 0), 1);
        DUE.refused("12: no bin 16", Due.INDEX, () -> x.bin(16, 0));
    }

    private static void spreads() {
        ReadBins x = new ReadBins();
        Due.barcode(x, "AAAAAA");
        Due.barcode(x, "CCCCCC");
        DUE.is("8: spread", x.told(0), 6);
        Due.barcode(x, "CCAAAG");
        DUE.is("8: spread to the first", x.told(0), 3);
        Due.barcode(x, "TTTTTT");
        DUE.is("8: spread stays the least", x.told(0), 3);
        Due.barcode(x, "TTTTTG");
        DUE.is("8: spread", x.told(0), 1);
    }

    private static void adapters() {
        ReadBins x = new ReadBins();
        Due.read(x, 1, ">a\nTTTTACGTT\n");
        DUE.is("6: without octets", x.adapter(), 0);
        DUE.is("6: three letters", Due.adapter(x, "ACG"), 3);
        DUE.is("6: the tape was used up", x.feed(2, 0x4141), 2);
        DUE.is("6: two letters", x.adapter(), -1);
        DUE.is("6: N", Due.adapter(x, "ACN"), -1);
        DUE.is("6: a line end", Due.adapter(x, "TTT\n"), -1);
        DUE.is("6: 31 letters", Due.adapter(x, "T".repeat(31)), -1);
        x.sort(0, 0);
        DUE.is("6: the one before stays", x.about(0, 4), 4);
        DUE.is("6: 30 letters", Due.adapter(x, "TTTACGTT" + "A".repeat(22)), 30);
        x.sort(0, 0);
        DUE.is("6: the new one", x.about(0, 4), 1);
        DUE.is("6: none again", x.adapter(), 0);
        x.sort(0, 0);
        DUE.is("6: there is none", x.about(0, 4), 9);
    }

    private static void limits() {
        ReadBins x = new ReadBins();
        Due.read(x, 0, "@a\nACGTA\n+\n+5555\n@b\nACGTA\n+\n5555+\n");
        DUE.is("7: limits", x.limits(15, 0, 5), true);
        x.sort(0, 0);
        DUE.is("7: at the beginning", Due.sorted(x, 0), "-1 1 5 1 -1");
        DUE.is("7: not at the end", Due.sorted(x, 1), "-1 0 5 0 -1");
        int[][] wrong = {{-1, 0, 0}, {94, 0, 0}, {0, -1, 0}, {0, 94, 0}, {0, 0, -1}, {0, 0, 121},
            {Integer.MIN_VALUE, 0, 0}, {0, Integer.MAX_VALUE, 0}, {0, 0, Integer.MAX_VALUE}};
        for (int[] three : wrong) {
            DUE.is("7: wrong limits", x.limits(three[0], three[1], three[2]), false);
            x.sort(0, 0);
            DUE.is("7: they stay", Due.sorted(x, 0) + ", " + Due.sorted(x, 1), "-1 1 5 1 -1, -1 0 5 0 -1");
        }
        DUE.is("7: greatest", x.limits(93, 93, 120), true);
        x.sort(0, 0);
        DUE.is("7: all goes", Due.sorted(x, 0), "-1 0 0 1 -1");
        DUE.is("7: least", x.limits(0, 0, 0), true);
        x.sort(0, 0);
        DUE.is("7: nothing goes", Due.sorted(x, 0), "-1 0 5 0 -1");
        DUE.is("7: at the end", x.limits(0, 15, 4), true);
        DUE.is("7: what is sorted stays", Due.sorted(x, 1), "-1 0 5 0 -1");
        x.sort(0, 0);
        DUE.is("7: at the end", Due.sorted(x, 1), "-1 0 4 0 -1");
    }

    private static void wrongWhats() {
        ReadBins x = new ReadBins();
        for (int what : new int[] {-1, 4, Integer.MIN_VALUE, Integer.MAX_VALUE}) {
            DUE.refused("8: what " + what, Due.INDEX, () -> x.told(what));
        }
    }
}
