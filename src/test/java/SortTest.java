/** Promises 9 (sort), 10 (about) of what is sorted, and 12 (bin). */
public final class SortTest {
    private static final Due DUE = new Due();

    public static void main(String[] args) {
        wrongArguments();
        nothingThere();
        reach();
        heads();
        adapterPlaces();
        endByQualities();
        beginByQualities();
        orderOfCuts();
        unknownLetters();
        bins();
        laterBarcodes();
        firstReadShort();
        DUE.end();
    }

    private static void wrongArguments() {
        ReadBins x = new ReadBins();
        Due.read(x, 1, ">a\nACG\n");
        int[] wrong = {-1, 13, Integer.MIN_VALUE, Integer.MAX_VALUE};
        for (int u : wrong) {
            DUE.refused("9: u " + u, Due.ARGUMENT, () -> x.sort(u, 0));
        }
        for (int way : new int[] {-1, 2, Integer.MIN_VALUE, Integer.MAX_VALUE}) {
            DUE.refused("9: way " + way, Due.ARGUMENT, () -> x.sort(0, way));
        }
        DUE.is("9: nothing is sorted", x.about(0, 4), -1);
    }

    private static void nothingThere() {
        ReadBins x = new ReadBins();
        DUE.is("9: no reads", x.sort(12, 1), 0);
        DUE.is("12: no reads", x.bin(-1, 0), 0);
        DUE.is("9: no reads, again", x.sort(0, 0), 0);
        Due.read(x, 1, ">a\nACG\n>b\nACG\n");
        DUE.is("9: no barcodes", x.sort(0, 0), 2);
        DUE.is("10: bin -1", Due.sorted(x, 0), "-1 0 3 0 -1");
    }

    // Spread 5 has a reach of 2, spread 4 one of 1, spread 2 one of 0; one barcode alone one of 6.
    private static void reach() {
        binsOf("AAAAA CCCCC", "AAAAA 0 CAACA 0 CCAAN -1 NANAA 0 CCCAA 1 NNCCC 1 GGGAA -1");
        binsOf("AAAA CCCC", "AAAT 0 AACC -1 CCNC 1 NAAN -1");
        binsOf("AA CC", "AA 0 CC 1 AC -1 AN -1");
        binsOf("AA AC", "AA 0 AC 1 AG -1");
        binsOf("AAAAAAAA", "AACCCCCC 0 ACCCCCCC -1 AANNNNNN 0");
        binsOf("A", "A 0 T 0 N 0");
    }

    private static void binsOf(String barcodes, String lettersAndBins) {
        ReadBins x = new ReadBins();
        for (String letters : barcodes.split(" ")) {
            Due.barcode(x, letters);
        }
        String[] words = lettersAndBins.split(" ");
        StringBuilder text = new StringBuilder();
        int outside = 0;
        for (int i = 0; i < words.length; i += 2) {
            text.append(">r\n").append(words[i]).append("\n");
            outside += words[i + 1].equals("-1") ? 1 : 0;
        }
        Due.read(x, 1, text.toString());
        DUE.is("9: of " + barcodes, x.sort(0, 0), outside);
        for (int i = 0; i < words.length; i += 2) {
            DUE.is("10: bin of " + words[i] + " in " + barcodes, x.about(i / 2, 2), Integer.parseInt(words[i + 1]));
        }
    }

    private static void heads() {
        ReadBins x = new ReadBins();
        Due.barcode(x, "ACG");
        Due.read(x, 1, ">a\nACGTT\n>b\nACGTTA\n>c\nACGT\n>d\nACG\n");
        DUE.is("9: u = 2", x.sort(2, 0), 2);
        DUE.is("10: just long enough", Due.sorted(x, 0), "0 5 5 1 -1");
        DUE.is("10: one letter", Due.sorted(x, 1), "0 5 6 0 0");
        DUE.is("10: too few letters", Due.sorted(x, 2), "-1 0 4 0 -1");
        DUE.is("9: u = 0", x.sort(0, 0), 0);
        DUE.is("10: no insert", Due.sorted(x, 3), "0 3 3 1 -1");
        DUE.is("10: no tag", Due.sorted(x, 2), "0 3 4 0 0");
        DUE.is("9: u = 12", x.sort(12, 0), 4);
    }

    private static void adapterPlaces() {
        endBehindAdapter("ACGTA", "TTACGTATT", 2);
        endBehindAdapter("ACGTA", "ACGTA", 0);
        endBehindAdapter("ACGTA", "TTACGTTTT", 2);
        endBehindAdapter("ACGTA", "TTACTTTTT", 9);
        endBehindAdapter("ACGTA", "TTTTTACGT", 5);
        endBehindAdapter("ACGTA", "TTTTTACTT", 9);
        endBehindAdapter("ACGTA", "TTTTTTACG", 6);
        endBehindAdapter("ACGTA", "TTTTTTTAC", 9);
        endBehindAdapter("ACGTA", "AC", 2);
        endBehindAdapter("ACGTA", "TTACGNATTACGTA", 2);
        endBehindAdapter("ACGTA", "TTANNTATTACGTA", 9);
        endBehindAdapter("ACGTACGTA", "TTTCCGTACGTATT", 3);
        endBehindAdapter("ACGTACGTA", "TTTCCGTACGTCTT", 14);
        endBehindAdapter("ACGTACGTAC", "TTTCCGTACGTCCT", 3);
        endBehindAdapter("ACGTACGTAC", "TTTCCGTACGTCC", 3);
        endBehindAdapter("ACGTACGTAC", "TTTCCGTACGTC", 7);
        endBehindAdapter("ACGTACGTAC", "TTTCTGTACGTAC", 3);
        endBehindAdapter("ACGTACGTAC", "TTTCTTTACGTAC", 7);
        endBehindAdapter("AAA", "CAACAAAAAA", 4);
    }

    private static void endBehindAdapter(String adapter, String letters, int end) {
        ReadBins x = new ReadBins();
        Due.adapter(x, adapter);
        Due.read(x, 1, ">a\n" + letters + "\n");
        x.sort(0, 0);
        DUE.is("9: adapter " + adapter + " in " + letters + " begin", x.about(0, 3), 0);
        DUE.is("9: adapter " + adapter + " in " + letters, x.about(0, 4), end);
    }

    // Qualities are 0 .. 9 by their digits, the limit is 5 where none is named.
    private static void endByQualities() {
        insertOf(0, 5, "9999", "0 4");
        insertOf(0, 5, "9990", "0 3");
        insertOf(0, 5, "9955", "0 4");
        insertOf(0, 5, "9954", "0 3");
        insertOf(0, 5, "9945", "0 2");
        insertOf(0, 5, "9464", "0 3");
        insertOf(0, 5, "9364", "0 1");
        insertOf(0, 5, "0074", "0 3");
        insertOf(0, 5, "0964", "0 3");
        insertOf(0, 5, "0064", "0 0");
        insertOf(0, 5, "0006", "0 4");
        insertOf(0, 5, "4444", "0 0");
        insertOf(0, 0, "0000", "0 4");
        insertOf(0, 1, "1100", "0 2");
        insertOf(0, 5, "9465", "0 4");
    }

    private static void beginByQualities() {
        insertOf(5, 0, "0999", "1 4");
        insertOf(5, 0, "5599", "0 4");
        insertOf(5, 0, "4599", "1 4");
        insertOf(5, 0, "5499", "2 4");
        insertOf(5, 0, "4649", "1 4");
        insertOf(5, 0, "4639", "3 4");
        insertOf(5, 0, "4700", "1 4");
        insertOf(5, 0, "4600", "4 4");
        insertOf(5, 0, "6000", "0 4");
        insertOf(5, 0, "4444", "4 4");
    }

    // The end goes first, and the beginning has just what is left.
    private static void orderOfCuts() {
        insertOf(5, 5, "0990", "1 3");
        insertOf(5, 5, "0000", "0 0");
        insertOf(9, 5, "8884", "3 3");
        insertOf(6, 9, "5888", "0 0");
        ReadBins x = new ReadBins();
        Due.barcode(x, "A");
        Due.adapter(x, "ACG");
        x.limits(20, 20, 3);
        Due.read(x, 0, "@a\nANTNNTNACG\n+\nIIIIIIIIII\n@b\nANTTTTTACG\n+\n#II##I!III\n@c\nAACG\n+\nIIII\n");
        DUE.is("9: sort", x.sort(0, 0), 0);
        DUE.is("9: adapter, then N", Due.sorted(x, 0), "0 2 6 0 0");
        DUE.is("9: adapter, then qualities, then N", Due.sorted(x, 1), "0 2 3 1 -1");
        DUE.is("9: nothing is left", Due.sorted(x, 2), "0 1 1 1 -1");
    }

    private static void insertOf(int atBegin, int atEnd, String digits, String beginAndEnd) {
        ReadBins x = new ReadBins();
        x.limits(atBegin, atEnd, 1);
        StringBuilder qualities = new StringBuilder();
        for (char digit : digits.toCharArray()) {
            qualities.append((char) (digit - '0' + 33));
        }
        Due.read(x, 0, "@a\n" + "A".repeat(digits.length()) + "\n+\n" + qualities + "\n");
        x.sort(0, 0);
        String what = "9: qualities " + digits + " by " + atBegin + " and " + atEnd;
        DUE.is(what, x.about(0, 3) + " " + x.about(0, 4), beginAndEnd);
    }

    private static void unknownLetters() {
        ReadBins x = new ReadBins();
        Due.barcode(x, "A");
        Due.read(x, 1, ">a\nCNNACNGNN\n>b\nCNNN\n>c\nCANNA\n");
        DUE.is("9: sort", x.sort(1, 0), 0);
        DUE.is("9: N at both ends", Due.sorted(x, 0), "0 3 7 0 0");
        DUE.is("9: N alone go at the beginning", Due.sorted(x, 1), "0 4 4 1 -1");
        DUE.is("9: N in the middle stay", Due.sorted(x, 2), "0 4 5 0 0");
    }

    private static void bins() {
        ReadBins x = new ReadBins();
        DUE.refused("12: no bin 0", Due.INDEX, () -> x.bin(0, 0));
        Due.barcode(x, "AAA");
        Due.barcode(x, "CCC");
        Due.read(x, 1, ">a\nAAAT\n>b\nCCC\n>c\nAAATTT\n>d\nCCCTT\n>e\nGGG\n>f\nN\n>g\nAAAG\n");
        DUE.refused("12: nothing is sorted", Due.STATE, () -> x.bin(1, 0));
        DUE.refused("12: another what comes first", Due.INDEX, () -> x.bin(1, 3));
        DUE.refused("12: no bin 2", Due.INDEX, () -> x.bin(2, 0));
        DUE.is("9: sort", x.sort(0, 0), 2);
        String answers = "";
        for (int bin = -1; bin < 2; bin++) {
            for (int what = 0; what < 3; what++) {
                answers += x.bin(bin, what) + " ";
            }
        }
        DUE.is("12: reads, short ones and groups", answers, "2 1 0 3 0 1 2 1 1 ");
        for (int bin : new int[] {-2, 2, Integer.MIN_VALUE, Integer.MAX_VALUE}) {
            DUE.refused("12: bin " + bin, Due.INDEX, () -> x.bin(bin, 0));
        }
        for (int what : new int[] {-1, 3, Integer.MIN_VALUE, Integer.MAX_VALUE}) {
            DUE.refused("12: what " + what, Due.INDEX, () -> x.bin(0, what));
        }
    }

    private static void laterBarcodes() {
        ReadBins x = new ReadBins();
        Due.barcode(x, "AA");
        Due.read(x, 1, ">a\nAAT\n>b\nCCTT\n");
        DUE.is("9: sort", x.sort(0, 0), 0);
        Due.barcode(x, "CC");
        DUE.refused("12: not yet a bin", Due.INDEX, () -> x.bin(1, 0));
        DUE.is("10: it stays sorted", x.about(1, 2), 0);
        DUE.is("12: it stays sorted", x.bin(0, 0), 2);
        DUE.is("9: sort anew", x.sort(0, 0), 0);
        DUE.is("12: a bin now", x.bin(1, 0), 1);
        Due.read(x, 1, ">a\nAAT\n");
        DUE.refused("12: a bin that is not sorted", Due.STATE, () -> x.bin(1, 0));
    }

    private static void firstReadShort() {
        ReadBins x = new ReadBins();
        Due.barcode(x, "AAA");
        Due.read(x, 1, ">a\nAAA\n>b\nAAAT\n>c\nAAA\n");
        x.sort(0, 0);
        DUE.is("12: reads", x.bin(0, 0), 3);
        DUE.is("12: short ones", x.bin(0, 1), 2);
        Due.read(x, 1, ">a\nN\n");
        x.sort(0, 0);
        DUE.is("12: reads of bin -1", x.bin(-1, 0), 1);
        DUE.is("12: short ones of bin -1", x.bin(-1, 1), 1);
        DUE.is("12: bin 0 is empty", x.bin(0, 0) + x.bin(0, 1) + x.bin(0, 2), 0);
    }
}
