/** The edges that the document names of sorting and its cuts (promises 9, 10) and of bins (12), each by its words. */
public final class SortEdgesTest {
    private static final Due DUE = new Due();
    // Its threes of A C G all differ but the last, so that no shorter part of it is found elsewhere in it.
    private static final String ADAPTER_30 = "AAACAAGACCACGAGCAGGCCCGCGGGAAA";
    private static final int[] FAR = {Integer.MIN_VALUE, -1000, 1000, Integer.MAX_VALUE};

    public static void main(String[] args) {
        argumentsOfSort();
        distances();
        reachOfEachSpread();
        reachOfOne();
        tooFewLetters();
        noBarcodes();
        binsWhenSorted();
        settingsLeaveWhatIsSorted();
        tagAndInsert();
        adapterSizes();
        adapterAsFarAsTheInsertGoes();
        adapterInTheInsertAlone();
        limitsNotDone();
        sumsAtTheEnd();
        sumsAtTheBeginning();
        onWhatIsLeft();
        unknownLetters();
        shortInserts();
        aboutIndexes();
        binIndexes();
        sortedAnew();
        DUE.end();
    }

    private static ReadBins sorted(String barcodes, int u, String... letters) {
        ReadBins x = new ReadBins();
        for (String barcode : barcodes.isEmpty() ? new String[0] : barcodes.split(" ")) {
            Due.barcode(x, barcode);
        }
        StringBuilder text = new StringBuilder();
        for (String one : letters) {
            text.append(">r\n").append(one).append("\n");
        }
        Due.read(x, 1, text.toString());
        x.sort(u, 0);
        return x;
    }

    private static String insert(ReadBins x, int i) {
        return x.about(i, 3) + " " + x.about(i, 4);
    }

    private static void argumentsOfSort() {
        DUE.sentence("IllegalArgumentException: u is not 0 .. 12, or the way not 0 or 1.");
        ReadBins x = new ReadBins();
        Due.read(x, 1, ">a\nACG\n");
        for (int way = 0; way < 2; way++) {
            for (int u = 0; u <= 12; u++) {
                DUE.is("sort(" + u + ", " + way + ")", x.sort(u, way), 1);
            }
            for (int u : new int[] {-1, -12, 13, 14}) {
                refusedSort(u, way);
            }
            for (int u : FAR) {
                refusedSort(u, way);
            }
        }
        for (int way : new int[] {-1, 2, 3, Integer.MIN_VALUE, Integer.MAX_VALUE}) {
            refusedSort(0, way);
            refusedSort(12, way);
            refusedSort(13, way);
        }
    }

    private static void refusedSort(int u, int way) {
        ReadBins x = new ReadBins();
        Due.read(x, 1, ">a\nACG\n");
        DUE.refused("sort(" + u + ", " + way + ")", Due.ARGUMENT, () -> x.sort(u, way));
        DUE.is("nothing is sorted by it", Due.sorted(x, 0), "-1 -1 -1 -1 -1");
        Due.barcode(x, "AC");
        x.sort(1, 0);
        x.limits(0, 0, 3);
        DUE.refused("sort(" + u + ", " + way + ") when sorted", Due.ARGUMENT, () -> x.sort(u, way));
        DUE.is("what is sorted stays", Due.sorted(x, 0), "0 3 3 1 -1");
        DUE.is("and is sorted", x.bin(0, 0), 1);
    }

    private static void distances() {
        DUE.sentence("The DISTANCE of two rows of LETTERS of one size is at how many places they differ");
        // Reach is 2: N differs from every letter, and each letter from the others alike.
        ReadBins x = sorted("AAAAA TTTTT", 0, "AAAAA", "AANAN", "NNNAA", "CAAAG", "ACGAT", "AATTA", "TTAAT", "NTTNT", "NNNNN", "TTTCA");
        String due = "0 0 -1 0 -1 0 1 1 -1 1";
        StringBuilder bins = new StringBuilder();
        for (int i = 0; i < 10; i++) {
            bins.append(i == 0 ? "" : " ").append(x.about(i, 2));
        }
        DUE.is("bins", bins.toString(), due);
    }

    private static void reachOfEachSpread() {
        int[] reaches = {0, 0, 1, 1, 2, 2, 3, 3, 4, 4, 5, 5};
        for (int spread = 1; spread <= 12; spread++) {
            DUE.sentence("REACH is (SPREAD - 1) / 2, rounded down");
            int reach = reaches[spread - 1];
            String first = "A".repeat(12);
            String second = "C".repeat(spread) + "A".repeat(12 - spread);
            ReadBins x = sorted(first + " " + second, 0, first, atDistance(first, reach), atDistance(first, reach + 1),
                second, atDistance(second, reach), atDistance(second, reach + 1));
            DUE.is("spread", x.told(0), spread);
            String bins = "";
            for (int i = 0; i < 6; i++) {
                bins += x.about(i, 2) + " ";
            }
            DUE.sentence("or no BARCODE has a DISTANCE of at most REACH from its first LETTERS");
            DUE.is("bins by spread " + spread, bins, "0 0 -1 1 1 -1 ");
            DUE.is("reads in bin -1", x.bin(-1, 0), 2);
        }
    }

    private static String atDistance(String letters, int differing) {
        return letters.substring(0, letters.length() - differing) + "G".repeat(differing);
    }

    private static void reachOfOne() {
        DUE.sentence("SPREAD is the least one of two BARCODES (13, if there are less than two); REACH is (SPREAD - 1) / 2");
        String barcode = "A".repeat(12);
        ReadBins x = sorted(barcode, 0, barcode, atDistance(barcode, 6), atDistance(barcode, 7), atDistance(barcode, 12));
        DUE.is("bins", x.about(0, 2) + " " + x.about(1, 2) + " " + x.about(2, 2) + " " + x.about(3, 2), "0 0 -1 -1");
        ReadBins small = sorted("AAAAAA", 0, "CCCCCC", "NNNNNN", "CCCCC");
        DUE.is("six letters all differ", small.about(0, 2) + " " + small.about(1, 2) + " " + small.about(2, 2), "0 0 -1");
        DUE.sentence("there is one at most");
        ReadBins two = sorted("AAAAAA AAAAAC", 0, "AAAAAA", "AAAAAC", "AAAAAG");
        DUE.is("bins", two.about(0, 2) + " " + two.about(1, 2) + " " + two.about(2, 2), "0 1 -1");
    }

    private static void tooFewLetters() {
        DUE.sentence("If it has less LETTERS than a BARCODE and u");
        for (int size : new int[] {1, 2, 11, 12}) {
            for (int u : new int[] {0, 1, 11, 12}) {
                String all = "A".repeat(size + u + 1);
                ReadBins x = sorted("A".repeat(size), u, all, all.substring(1), all.length() > 2 ? all.substring(2) : "T");
                String what = "barcode of " + size + ", u = " + u;
                int head = size + u;
                DUE.is(what + ", one more", Due.sorted(x, 0), "0 " + head + " " + (head + 1) + " 0 0");
                DUE.is(what + ", just enough", Due.sorted(x, 1), "0 " + head + " " + head + " 1 -1");
                if (head > 1) {
                    DUE.is(what + ", one less", Due.sorted(x, 2), "-1 0 " + (head - 1) + " 0 -1");
                    DUE.is(what + ", reads in bin -1", x.bin(-1, 0), 1);
                }
            }
        }
    }

    private static void noBarcodes() {
        DUE.sentence("(or there is none at all): BIN -1");
        for (int u = 0; u <= 12; u += 6) {
            ReadBins x = sorted("", u, "A", "ACGTACGTACGTACGT");
            DUE.is("one letter", Due.sorted(x, 0), "-1 0 1 0 -1");
            DUE.is("16 letters", Due.sorted(x, 1), "-1 0 16 0 -1");
            DUE.is("bin -1", x.bin(-1, 0) + " " + x.bin(-1, 1) + " " + x.bin(-1, 2), "2 0 0");
            DUE.refused("bin 0", Due.INDEX, () -> x.bin(0, 0));
        }
        DUE.sentence("Answers how many READS are in BIN -1.");
        ReadBins none = new ReadBins();
        DUE.is("of none", none.sort(0, 0), 0);
        DUE.is("and it is sorted", none.bin(-1, 0), 0);
        DUE.is("write", none.write(0, -1, false), 0);
        Due.read(none, 1, ">a\nA\n".repeat(60));
        DUE.is("of 60 without a barcode", none.sort(0, 0), 60);
        Due.barcode(none, "A");
        DUE.is("of 60 with theirs", none.sort(0, 0), 0);
        DUE.is("of 60 too short", none.sort(1, 0), 60);
    }

    private static void binsWhenSorted() {
        DUE.sentence("BINS are those of the BARCODES that there are when it is SORTED; before, those that there are");
        ReadBins x = new ReadBins();
        Due.read(x, 1, ">a\nAAAT\n>b\nCCCT\n");
        DUE.refused("bin 0 without barcodes", Due.INDEX, () -> x.bin(0, 0));
        DUE.refused("bin -1 is always there", Due.STATE, () -> x.bin(-1, 0));
        Due.barcode(x, "AAA");
        DUE.refused("bin 0 before it is sorted", Due.STATE, () -> x.bin(0, 0));
        DUE.refused("bin 1 before it is there", Due.INDEX, () -> x.bin(1, 0));
        x.sort(0, 0);
        String before = Due.sorted(x, 0) + ", " + Due.sorted(x, 1);
        DUE.is("by one barcode", before, "0 3 4 0 0, 0 3 4 0 0");
        Due.barcode(x, "CCC");
        DUE.is("it stays sorted", Due.sorted(x, 0) + ", " + Due.sorted(x, 1), before);
        DUE.refused("bin 1 when sorted", Due.INDEX, () -> x.bin(1, 0));
        DUE.refused("group of bin 1 when sorted", Due.INDEX, () -> x.group(1, 0, 0));
        DUE.refused("text of bin 1 when sorted", Due.INDEX, () -> x.write(0, 1, false));
        DUE.is("bin 0 has both", x.bin(0, 0), 2);
        DUE.is("a fault leaves it sorted", Due.read(x, 1, "A"), -2);
        DUE.refused("bin 1 behind a fault", Due.INDEX, () -> x.bin(1, 0));
        Due.read(x, 1, ">a\nAAAT\n>b\nCCCT\n");
        DUE.refused("bin 1 of what is not sorted", Due.STATE, () -> x.bin(1, 0));
        DUE.refused("bin 2 of what is not sorted", Due.INDEX, () -> x.bin(2, 0));
        x.sort(0, 0);
        DUE.is("by two barcodes", Due.sorted(x, 0) + ", " + Due.sorted(x, 1), "0 3 4 0 0, 1 3 4 0 0");
    }

    private static void settingsLeaveWhatIsSorted() {
        DUE.sentence("Nothing is promised beyond the answers and state changes described above");
        ReadBins x = new ReadBins();
        Due.barcode(x, "AC");
        Due.read(x, 1, ">a\nACGGTTT\n>b\nACGTTT\n");
        x.sort(1, 0);
        String due = "0 3 7 0 0, 0 3 6 0 0";
        DUE.is("sorted", Due.sorted(x, 0) + ", " + Due.sorted(x, 1), due);
        DUE.is("an adapter", Due.adapter(x, "TTT"), 3);
        DUE.is("behind the adapter", Due.sorted(x, 0) + ", " + Due.sorted(x, 1), due);
        DUE.is("limits", x.limits(93, 93, 120), true);
        DUE.is("behind the limits", Due.sorted(x, 0) + ", " + Due.sorted(x, 1), due);
        DUE.is("a barcode", Due.barcode(x, "CA"), 1);
        DUE.is("behind the barcode", Due.sorted(x, 0) + ", " + Due.sorted(x, 1), due);
        DUE.is("short ones", x.bin(0, 1), 0);
        DUE.is("the best read", x.group(0, 0, 1), 0);
        DUE.is("its text", x.write(1, 0, true), 8);
        DUE.is("its insert", Due.written(x, 8), ">a\nGTTT\n");
        x.again();
        DUE.is("behind again", Due.sorted(x, 0) + ", " + Due.sorted(x, 1), due);
        DUE.sentence("SORTING, with tags of u LETTERS");
        DUE.is("sort anew", x.sort(1, 0), 0);
        DUE.is("by all of them", Due.sorted(x, 0) + ", " + Due.sorted(x, 1), "0 3 3 1 -1, 0 3 3 1 -1");
    }

    private static void tagAndInsert() {
        DUE.sentence("Its TAG is the next u LETTERS, its INSERT what is behind that; of READS in BIN -1 all is INSERT.");
        for (int u = 0; u <= 12; u++) {
            ReadBins x = sorted("ACA CAC", u, "ACA" + "G".repeat(20), "TTT" + "G".repeat(20));
            DUE.is("u = " + u, insert(x, 0), 3 + u + " 23");
            DUE.is("u = " + u + ", bin -1", insert(x, 1), "0 23");
        }
        // The tag ends where the insert begins: what differs there makes no group of its own.
        ReadBins x = sorted("A", 2, "AGGCCCC", "AGGTTTT", "CGGCTCT", "ACCCCCC");
        DUE.is("groups", x.about(0, 6) + " " + x.about(1, 6) + " " + x.about(2, 6) + " " + x.about(3, 6), "0 0 0 1");
    }

    /** The end of the insert of letters in bin -1, with an adapter. */
    private static int endWith(String adapter, String letters) {
        ReadBins x = new ReadBins();
        Due.adapter(x, adapter);
        Due.read(x, 1, ">a\n" + letters + "\n");
        x.sort(0, 0);
        DUE.is("the insert of " + letters + " begins", x.about(0, 3), 0);
        return x.about(0, 4);
    }

    private static String spoilt(String letters, int count, boolean atEnd) {
        int size = letters.length();
        return atEnd ? letters.substring(0, size - count) + "T".repeat(count) : "T".repeat(count) + letters.substring(count);
    }

    private static void adapterSizes() {
        DUE.sentence("at most one of each full 5 differs: all from there on goes");
        for (int size = 3; size <= 30; size++) {
            String adapter = ADAPTER_30.substring(0, size);
            for (int differing = 0; differing <= size / 5 + 1; differing++) {
                boolean cut = differing <= size / 5;
                String what = differing + " of " + size + " differ";
                String first = "TT" + spoilt(adapter, differing, false) + "TTTT";
                String last = "TT" + spoilt(adapter, differing, true) + "TTTT";
                DUE.is(what + ", the first", endWith(adapter, first), cut ? 2 : size + 6);
                DUE.is(what + ", the last", endWith(adapter, last), cut ? 2 : size + 6);
            }
        }
        DUE.sentence("from the first place of the INSERT on at which the ADAPTER begins");
        DUE.is("at its very first place", endWith("ACG", "ACG"), 0);
        DUE.is("twice", endWith("ACG", "TACGTACGT"), 1);
        DUE.is("a worse one before a better", endWith("ACGAC", "TACGATTACGACT"), 1);
        DUE.is("over itself", endWith("AAA", "TAAAAAA"), 1);
    }

    private static void adapterAsFarAsTheInsertGoes() {
        DUE.sentence("so that of its LETTERS, as far as the INSERT goes (3 at least)");
        for (int size = 1; size < 30; size++) {
            String part = ADAPTER_30.substring(0, size);
            for (int differing = 0; differing <= size / 5 + 1 && differing <= size; differing++) {
                boolean cut = size >= 3 && differing <= size / 5;
                String letters = "TT" + spoilt(part, differing, true);
                DUE.is(differing + " of the first " + size + " differ", endWith(ADAPTER_30, letters), cut ? 2 : size + 2);
            }
        }
        DUE.is("one letter", endWith("AAA", "A"), 1);
        DUE.is("two letters", endWith("AAA", "AA"), 2);
        DUE.is("three letters", endWith("AAA", "AAA"), 0);
        DUE.is("two at the end", endWith("ACG", "TTTAC"), 5);
        DUE.is("N differs", endWith("ACG", "TTANG"), 5);
        DUE.is("N is one of five", endWith("ACGAC", "TTACGNC"), 2);
    }

    private static void adapterInTheInsertAlone() {
        DUE.sentence("from the first place of the INSERT on at which the ADAPTER begins");
        ReadBins x = new ReadBins();
        Due.barcode(x, "ACG");
        Due.adapter(x, "ACG");
        Due.read(x, 1, ">a\nACGACGTT\n>b\nACGTTACG\n>c\nACGACTTT\n>d\nACGTACGT\n>e\nACGTTTAC\n");
        x.sort(0, 0);
        DUE.is("behind the barcode", insert(x, 0), "3 3");
        DUE.is("at the end", insert(x, 1), "3 5");
        DUE.is("not in it", insert(x, 2), "3 8");
        x.sort(1, 0);
        DUE.is("a tag's letters are no place for it", insert(x, 0), "4 8");
        DUE.is("at the insert's first place", insert(x, 3), "4 4");
        x.sort(5, 0);
        DUE.is("an insert of none", insert(x, 0), "8 8");
        x.sort(3, 0);
        DUE.is("an insert of two", insert(x, 4), "6 8");
        DUE.sentence("of READS in BIN -1 all is INSERT");
        x.sort(6, 0);
        DUE.is("its first letters are the adapter's", Due.sorted(x, 0), "-1 0 0 1 -1");
    }

    /** Begin and end of an insert, by the qualities' numbers and both limits. */
    private static String cut(int atBegin, int atEnd, int... qualities) {
        ReadBins x = new ReadBins();
        DUE.is("limits", x.limits(atBegin, atEnd, 1), true);
        StringBuilder text = new StringBuilder("@a\n" + "A".repeat(qualities.length) + "\n+\n");
        for (int quality : qualities) {
            text.append((char) (33 + quality));
        }
        Due.read(x, 0, text + "\n");
        x.sort(0, 0);
        return insert(x, 0);
    }

    private static void limitsNotDone() {
        DUE.sentence("with the LIMITS at the beginning and at the end (0: not done)");
        DUE.is("0 and 0", cut(0, 0, 0, 0, 0), "0 3");
        DUE.is("1 at the beginning", cut(1, 0, 0, 0, 1), "2 3");
        DUE.is("1 at the end", cut(0, 1, 1, 0, 0), "0 1");
        DUE.is("93 at the beginning", cut(93, 0, 92, 93, 93), "1 3");
        DUE.is("93 at the end", cut(0, 93, 93, 93, 92), "0 2");
        DUE.is("93 and qualities of 93", cut(93, 93, 93, 93, 93), "0 3");
        DUE.is("93 and qualities of 92", cut(93, 93, 92, 92, 92), "0 0");
        DUE.is("93 and qualities of 92, the beginning alone", cut(93, 0, 92, 92, 92), "3 3");
        DUE.is("one letter at the limit", cut(20, 20, 20), "0 1");
        DUE.is("one letter below it", cut(20, 20, 19), "0 0");
        DUE.is("one letter below it, the beginning alone", cut(20, 0, 19), "1 1");
    }

    private static void sumsAtTheEnd() {
        DUE.sentence("from the place on where the sum is greatest (of several the one next to the end), if it is above 0, all goes");
        DUE.is("no sum above 0", cut(0, 10, 0, 0, 10, 11), "0 4");
        DUE.is("a sum of 0", cut(0, 10, 20, 10, 10, 10), "0 4");
        DUE.is("a sum of 1", cut(0, 10, 20, 10, 10, 9), "0 3");
        DUE.is("the greatest stands further in", cut(0, 10, 20, 8, 11, 9), "0 1");
        DUE.is("two alike", cut(0, 10, 20, 9, 11, 9), "0 3");
        DUE.is("two alike, side by side", cut(0, 10, 20, 10, 10, 5), "0 3");
        DUE.is("three alike", cut(0, 10, 20, 9, 11, 9, 11, 9), "0 5");
        DUE.is("all", cut(0, 10, 9, 9, 9, 9), "0 0");
        DUE.is("all but the first", cut(0, 10, 10, 9, 9, 9), "0 1");
        DUE.sentence("it is stopped at the first place where a sum is below 0");
        DUE.is("a sum of 0 stops nothing", cut(0, 10, 20, 0, 11, 9), "0 1");
        DUE.is("a sum of -1 does", cut(0, 10, 20, 0, 12, 9), "0 3");
        DUE.is("at once", cut(0, 10, 0, 0, 0, 11), "0 4");
        DUE.is("a sum of 0 at once does not", cut(0, 10, 0, 0, 0, 10), "0 0");
    }

    private static void sumsAtTheBeginning() {
        DUE.sentence("For the beginning likewise forwards, on what is left: up to that place all goes.");
        DUE.is("no sum above 0", cut(10, 0, 11, 10, 0, 0), "0 4");
        DUE.is("a sum of 0", cut(10, 0, 10, 10, 10, 20), "0 4");
        DUE.is("a sum of 1", cut(10, 0, 9, 10, 10, 20), "1 4");
        DUE.is("the greatest stands further in", cut(10, 0, 9, 11, 8, 20), "3 4");
        DUE.is("two alike", cut(10, 0, 9, 11, 9, 20), "1 4");
        DUE.is("two alike, side by side", cut(10, 0, 5, 10, 10, 20), "1 4");
        DUE.is("three alike", cut(10, 0, 9, 11, 9, 11, 9, 20), "1 6");
        DUE.is("all", cut(10, 0, 9, 9, 9, 9), "4 4");
        DUE.is("all but the last", cut(10, 0, 9, 9, 9, 10), "3 4");
        DUE.is("a sum of 0 stops nothing", cut(10, 0, 9, 11, 0, 20), "3 4");
        DUE.is("a sum of -1 does", cut(10, 0, 9, 12, 0, 20), "1 4");
        DUE.is("at once", cut(10, 0, 11, 0, 0, 0), "0 4");
    }

    private static void onWhatIsLeft() {
        DUE.sentence("For the beginning likewise forwards, on what is left");
        DUE.is("both", cut(10, 10, 0, 20, 20, 0), "1 3");
        DUE.is("the end first takes all", cut(10, 10, 0, 0, 0, 0), "0 0");
        DUE.is("the beginning has no letter that went", cut(10, 5, 9, 10, 9, 0), "3 3");
        DUE.is("the end has those that go at the beginning", cut(10, 10, 0, 11, 9, 9), "0 0");
        DUE.sentence("Then by QUALITIES");
        ReadBins x = new ReadBins();
        Due.adapter(x, "ACG");
        x.limits(10, 10, 0);
        // What the adapter took is no end any more; what is left behind the head is all that the sums see.
        Due.barcode(x, "TTT");
        Due.read(x, 0, "@a\nTTTGGGACG\n+\n!!!II!III\n@b\nTTTGGGACG\n+\n!!!II~!!!\n@c\nTTTGACGG\n+\nIII!IIII\n");
        x.sort(0, 0);
        DUE.is("behind the adapter", insert(x, 0), "3 5");
        DUE.is("not by what the adapter took", insert(x, 1), "3 6");
        DUE.is("nothing but one", Due.sorted(x, 2), "0 3 3 0 0");
    }

    private static void unknownLetters() {
        DUE.sentence("Then N at its beginning go, then those at its end.");
        ReadBins x = sorted("A", 1, "AANNCNGNN", "AANC", "AACN", "AAN", "AANNN", "AACNNC", "AA", "ANNNCNN");
        String[] due = {"4 7", "3 4", "2 3", "3 3", "5 5", "2 6", "2 2", "4 5"};
        for (int i = 0; i < due.length; i++) {
            DUE.is("read " + i, insert(x, i), due[i]);
        }
        ReadBins whole = sorted("", 0, "N", "NN", "NAN", "ANA");
        DUE.is("of bin -1", insert(whole, 0) + ", " + insert(whole, 1) + ", " + insert(whole, 2) + ", " + insert(whole, 3), "1 1, 2 2, 1 2, 0 3");
        // N that the qualities leave go, and N do not stop the sums.
        ReadBins y = new ReadBins();
        y.limits(10, 10, 1);
        Due.read(y, 0, "@a\nANCCNA\n+\n!IIII!\n@b\nNACCAN\n+\nI!II!I\n");
        y.sort(0, 0);
        DUE.is("behind the qualities", insert(y, 0), "2 4");
        DUE.is("not before the qualities", insert(y, 1), "1 5");
    }

    private static void shortInserts() {
        DUE.sentence("It is SHORT if it has less LETTERS than LEAST says then.");
        String all = "ACGT".repeat(30);
        int[][] leasts = {{0, 0}, {0, 1}, {1, 1}, {1, 2}, {60, 60}, {60, 61}, {119, 119}, {119, 120}, {120, 120}};
        for (int[] pair : leasts) {
            ReadBins x = new ReadBins();
            x.limits(0, 0, pair[1]);
            Due.read(x, 1, ">a\n" + (pair[0] == 0 ? "NN" : all.substring(0, pair[0])) + "\n");
            x.sort(0, 0);
            String what = pair[0] + " letters, least " + pair[1];
            DUE.is(what, x.about(0, 5), pair[0] < pair[1] ? 1 : 0);
            DUE.is(what + ", in the bin", x.bin(-1, 1), pair[0] < pair[1] ? 1 : 0);
        }
        ReadBins x = new ReadBins();
        Due.barcode(x, "AC");
        x.limits(0, 0, 3);
        Due.read(x, 1, ">a\nACGGTTT\n>b\nACGGTTTNN\n>c\nACGGTTNNN\n");
        x.sort(2, 0);
        DUE.is("behind all cuts, with no letter of the head", x.about(0, 5) + " " + x.about(1, 5) + " " + x.about(2, 5), "0 0 1");
    }

    private static void aboutIndexes() {
        DUE.sentence("IndexOutOfBoundsException: there is no such READ, or another what.");
        ReadBins x = new ReadBins();
        Due.barcode(x, "AC");
        Due.barcode(x, "CA");
        DUE.refused("without reads", Due.INDEX, () -> x.about(0, 0));
        Due.read(x, 1, ">abc\nACGTT\n>d\nTTTTT\n");
        for (int round = 0; round < 2; round++) {
            for (int i : new int[] {-1, 2, 59, 60, Integer.MIN_VALUE, Integer.MAX_VALUE}) {
                for (int what : new int[] {0, 1, 2, 6}) {
                    DUE.refused("about(" + i + ", " + what + ")", Due.INDEX, () -> x.about(i, what));
                }
            }
            for (int what : new int[] {-1, 7, 8, Integer.MIN_VALUE, Integer.MAX_VALUE}) {
                DUE.refused("about(0, " + what + ")", Due.INDEX, () -> x.about(0, what));
                DUE.refused("about(2, " + what + ")", Due.INDEX, () -> x.about(2, what));
            }
            DUE.is("name and letters", x.about(0, 0) + " " + x.about(0, 1) + " " + x.about(1, 0) + " " + x.about(1, 1), "3 5 1 5");
            DUE.sentence(round == 0 ? "2 to 6 are NONE when nothing is SORTED." : "its GROUP (6; NONE without one)");
            DUE.is("read 0", Due.sorted(x, 0), round == 0 ? "-1 -1 -1 -1 -1" : "0 3 5 0 0");
            DUE.is("read 1", Due.sorted(x, 1), round == 0 ? "-1 -1 -1 -1 -1" : "-1 0 5 0 -1");
            x.sort(1, 0);
        }
        Due.read(x, 1, ">a\nACGT\n".repeat(60));
        x.sort(0, 0);
        DUE.is("the 60th read", Due.sorted(x, 59), "0 2 4 0 0");
        DUE.refused("no 61st read", Due.INDEX, () -> x.about(60, 2));
        x.limits(0, 0, 3);
        x.sort(0, 0);
        DUE.is("a short one has no group", Due.sorted(x, 59), "0 2 4 1 -1");
    }

    private static void binIndexes() {
        DUE.sentence("IndexOutOfBoundsException: there is no such BIN, or another what.");
        ReadBins x = new ReadBins();
        Due.barcode(x, "AAA");
        Due.barcode(x, "CCC");
        Due.read(x, 1, ">a\nAAAT\n>b\nCCC\n>c\nG\n>d\nN\n>e\nAAATT\n");
        for (int round = 0; round < 2; round++) {
            for (int bin : new int[] {-2, -3, 2, 15, 16, Integer.MIN_VALUE, Integer.MAX_VALUE}) {
                for (int what = -1; what <= 3; what++) {
                    int w = what;
                    DUE.refused("bin(" + bin + ", " + what + ")", Due.INDEX, () -> x.bin(bin, w));
                }
            }
            for (int what : new int[] {-1, 3, Integer.MIN_VALUE, Integer.MAX_VALUE}) {
                for (int bin = -1; bin < 2; bin++) {
                    int b = bin;
                    DUE.refused("bin(" + bin + ", " + what + ")", Due.INDEX, () -> x.bin(b, what));
                }
            }
            if (round == 0) {
                DUE.sentence("IllegalStateException: nothing is SORTED.");
                for (int bin = -1; bin < 2; bin++) {
                    for (int what = 0; what < 3; what++) {
                        int b = bin;
                        int w = what;
                        DUE.refused("bin(" + bin + ", " + what + ")", Due.STATE, () -> x.bin(b, w));
                    }
                }
                x.sort(0, 0);
            }
        }
        DUE.sentence("how many READS are in it (what = 0), how many of these are SHORT (1), how many GROUPS it has (2; 0 of BIN -1)");
        String[] due = {"2 1 0", "2 0 1", "1 1 0"};
        for (int bin = -1; bin < 2; bin++) {
            DUE.is("bin " + bin, x.bin(bin, 0) + " " + x.bin(bin, 1) + " " + x.bin(bin, 2), due[bin + 1]);
        }
    }

    private static void sortedAnew() {
        DUE.sentence("SORTING, with tags of u LETTERS, and GROUPS by a way.");
        ReadBins x = new ReadBins();
        Due.barcode(x, "AC");
        Due.read(x, 1, ">a\nACGGTT\n>b\nACGCTT\n>c\nACGGTT\n>d\nACGCTT\n");
        for (int round = 0; round < 3; round++) {
            x.sort(2, 0);
            DUE.is("way 0", Due.sorted(x, 0) + ", " + Due.sorted(x, 1), "0 4 6 0 0, 0 4 6 0 0");
            x.sort(2, 1);
            DUE.is("way 1", Due.sorted(x, 0) + ", " + Due.sorted(x, 1), "0 4 6 0 1, 0 4 6 0 0");
            x.sort(5, 1);
            DUE.is("too long", Due.sorted(x, 0) + ", " + x.bin(-1, 0) + " " + x.bin(0, 0) + " " + x.bin(0, 2), "-1 0 6 0 -1, 4 0 0");
        }
        Due.read(x, 1, ">a\nACGGTT\n");
        x.sort(2, 1);
        DUE.is("less reads than before", x.bin(0, 0) + " " + x.bin(0, 2) + " " + x.bin(-1, 0) + " " + x.group(0, 0, 0), "1 1 0 1");
    }
}
