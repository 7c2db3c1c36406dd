/** Promise 13 (group), and the groups that promises 9, 10 and 12 tell of. */
public final class GroupTest {
    private static final Due DUE = new Due();

    public static void main(String[] args) {
        chains();
        byCount();
        oneTagAlone();
        orderOfSeeds();
        shortReadsStayOut();
        binsByThemselves();
        bestReads();
        bestByInsertAlone();
        sortedAnew();
        wrongArguments();
        DUE.end();
    }

    /** The reads' groups, with tags of u letters behind the barcode A and one letter behind them. */
    private static String groupsOf(int u, int way, String... tags) {
        return groupsOf(new ReadBins(), u, way, tags);
    }

    private static String groupsOf(ReadBins x, int u, int way, String... tags) {
        Due.barcode(x, "A");
        StringBuilder text = new StringBuilder();
        for (String tag : tags) {
            text.append(">r\nA").append(tag).append("T\n");
        }
        Due.read(x, 1, text.toString());
        x.sort(u, way);
        StringBuilder groups = new StringBuilder();
        for (int i = 0; i < tags.length; i++) {
            groups.append(x.about(i, 6)).append(i + 1 < tags.length ? " " : "");
        }
        return groups.toString();
    }

    private static void chains() {
        DUE.is("9: way 0, a chain", groupsOf(2, 0, "AA", "CC", "AC"), "0 0 0");
        DUE.is("9: way 0, no chain", groupsOf(2, 0, "AA", "CC", "AA"), "0 1 0");
        DUE.is("9: way 0, as the first read comes", groupsOf(2, 0, "TT", "AA", "TA", "CC", "TC"), "0 0 0 0 0");
        DUE.is("9: way 0, two chains", groupsOf(3, 0, "TTT", "AAA", "AAC", "TTG", "ACC"), "0 1 1 0 1");
        DUE.is("9: way 0, N differs", groupsOf(2, 0, "NN", "AN", "AA", "CC"), "0 0 0 1");
        DUE.is("9: way 0 knows no counts", groupsOf(2, 0, "AA", "AA", "AC", "AC"), "0 0 0 0");
        DUE.is("9: no tags", groupsOf(0, 0, "A", "C", "G"), "0 0 0");
        DUE.is("9: no tags, way 1", groupsOf(0, 1, "A", "C", "G"), "0 0 0");
        DUE.is("9: 12 letters", groupsOf(12, 0, "ACGTACGTACGT", "ACGTACGTACGA", "CCGTACGTACGA", "ACCCACGTACGT"), "0 0 0 1");
    }

    private static void byCount() {
        DUE.is("9: way 1, 1 and 1", groupsOf(2, 1, "AA", "AC"), "0 0");
        DUE.is("9: way 1, 2 and 2", groupsOf(2, 1, "AC", "AC", "AA", "AA"), "1 1 0 0");
        DUE.is("9: way 1, 2 and 2 the other way", groupsOf(2, 1, "AA", "AA", "AC", "AC"), "0 0 1 1");
        DUE.is("9: way 1, 3 and 2", groupsOf(2, 1, "AC", "AC", "AA", "AA", "AC"), "0 0 0 0 0");
        DUE.is("9: way 1, 4 and 3", groupsOf(2, 1, "AC", "AC", "AA", "AA", "AC", "AA", "AC"), "0 0 1 1 0 1 0");
        DUE.is("9: way 1, 5 and 3", groupsOf(2, 1, "AC", "AC", "AA", "AA", "AC", "AA", "AC", "AC"), "0 0 0 0 0 0 0 0");
        DUE.is("9: way 1, a distance of 2", groupsOf(2, 1, "AC", "AC", "AC", "GA"), "0 0 0 1");
        DUE.is("9: way 1, on from those that came", groupsOf(2, 1, "AA", "AC", "CC"), "0 0 0");
        DUE.is("9: way 1, by the count of the next", groupsOf(3, 1,
            "AAA", "AAA", "AAA", "AAA", "AAA", "AAC", "AAC", "ACC", "ACC", "CCC"), "0 0 0 0 0 0 0 1 1 1");
        DUE.is("9: way 1, up to 3 and 2 and 1", groupsOf(3, 1,
            "CCC", "ACC", "ACC", "AAC", "AAC", "AAC", "AAA", "AAA", "AAA", "AAA", "AAA"), "0 0 0 0 0 0 0 0 0 0 0");
    }

    private static void oneTagAlone() {
        ReadBins x = new ReadBins();
        groupsOf(x, 2, 1, "GT", "GT");
        DUE.is("13: reads", x.group(0, 0, 0), 2);
        DUE.is("13: best read", x.group(0, 0, 1), 0);
        DUE.is("13: tags", x.group(0, 0, 2), 1);
        DUE.is("12: groups", x.bin(0, 2), 1);
    }

    private static void orderOfSeeds() {
        DUE.is("9: way 1, the greatest first", groupsOf(2, 1, "AA", "CC", "CC", "GG", "GG", "GG"), "2 1 1 0 0 0");
        DUE.is("9: way 1, the least by its letters", groupsOf(2, 1, "TT", "NN", "GG", "CC", "AA"), "4 3 2 1 0");
        DUE.is("9: way 1, by the second letter", groupsOf(2, 1, "CT", "AC", "AC", "CT"), "1 0 0 1");
        DUE.is("9: way 1, the first letter before the second", groupsOf(2, 1, "CA", "AT"), "1 0");
        DUE.is("9: way 0 has no such order", groupsOf(2, 0, "TT", "NN", "GG"), "0 1 2");
        // TA may come into the group of AA or of TT: the one that begins first has it.
        DUE.is("9: way 1, who begins first has it", groupsOf(2, 1, "TT", "TT", "TT", "AA", "AA", "AA", "TA"), "1 1 1 0 0 0 0");
    }

    private static void shortReadsStayOut() {
        ReadBins x = new ReadBins();
        Due.barcode(x, "A");
        x.limits(0, 0, 2);
        Due.read(x, 1, ">a\nAAATT\n>b\nAACT\n>c\nACCTT\n>d\nAAA\n>e\nAAATTT\n");
        x.sort(2, 0);
        DUE.is("10: in no chain", Due.sorted(x, 1), "0 3 4 1 -1");
        DUE.is("10: another group", Due.sorted(x, 2), "0 3 5 0 1");
        DUE.is("13: reads", x.group(0, 0, 0), 2);
        DUE.is("12: groups", x.bin(0, 2), 2);
        DUE.is("12: short ones", x.bin(0, 1), 2);
        x.limits(0, 0, 0);
        x.sort(2, 0);
        DUE.is("10: least 0", Due.sorted(x, 3), "0 3 3 0 0");
        DUE.is("13: one group", x.group(0, 0, 0), 5);
        DUE.is("13: tags", x.group(0, 0, 2), 3);
    }

    private static void binsByThemselves() {
        ReadBins x = new ReadBins();
        Due.barcode(x, "AAA");
        Due.barcode(x, "CCC");
        Due.read(x, 1, ">a\nCCCGT\n>b\nAAAGT\n>c\nCCCAT\n>d\nTTTGT\n>e\nAAAGTT\n>f\nAACGT\n");
        for (int way = 0; way < 2; way++) {
            DUE.is("9: way " + way, x.sort(1, way), 1);
            DUE.is("13: bin 0", x.group(0, 0, 0) + " " + x.group(0, 0, 1) + " " + x.group(0, 0, 2), "3 4 1");
            DUE.is("13: bin 1", x.group(1, 0, 0) + " " + x.group(1, 0, 1) + " " + x.group(1, 0, 2), "2 0 2");
            DUE.is("10: of bin -1", x.about(3, 6), -1);
            DUE.refused("13: bin 1 has one", Due.INDEX, () -> x.group(1, 1, 0));
        }
        // AG of bin 1 is near to AC, but that is in bin 0.
        Due.read(x, 1, ">a\nAAAAAT\n>b\nAAAACT\n>c\nCCCTTT\n>d\nCCCAGT\n");
        x.sort(2, 0);
        DUE.is("12: groups of bin 0", x.bin(0, 2), 1);
        DUE.is("12: groups of bin 1", x.bin(1, 2), 2);
    }

    private static void bestReads() {
        ReadBins x = new ReadBins();
        Due.barcode(x, "A");
        x.limits(0, 10, 1);
        // c has the greatest sum of all letters, but not in its insert; d is as good as b.
        Due.read(x, 0, "@a\nAGTT\n+\nII55\n@b\nAGTT\n+\n!!78\n@c\nAGTTTT\n+\n~~+++!\n@d\nAGTT\n+\n~~87\n@e\nATT\n+\n~~~\n");
        x.sort(1, 0);
        DUE.is("13: one group", x.group(0, 0, 0), 5);
        DUE.is("13: e is best", x.group(0, 0, 1), 4);
        Due.read(x, 0, "@a\nAGTT\n+\nII55\n@b\nAGTT\n+\n!!78\n@c\nAGTTTT\n+\n~~+++!\n@d\nAGTT\n+\n~~87\n");
        x.sort(1, 1);
        DUE.is("13: of several the first", x.group(0, 0, 1), 1);
        Due.read(x, 0, "@a\nAGT\n+\n!!!\n@b\nAGT\n+\n~~!\n");
        x.limits(0, 0, 0);
        x.sort(1, 0);
        DUE.is("13: sums of 0", x.group(0, 0, 1), 0);
    }

    // What is cut off behind the insert of b counts for nothing, nor does the better read of another bin.
    private static void bestByInsertAlone() {
        ReadBins x = new ReadBins();
        Due.barcode(x, "AAA");
        Due.barcode(x, "CCC");
        Due.read(x, 0, "@x\nCCCTT\n+\n~~~~~\n@a\nAAATT\n+\n###6#\n@b\nAAATTNN\n+\n~~~5#~~\n");
        x.sort(0, 0);
        DUE.is("13: of bin 0", x.group(0, 0, 1), 1);
        DUE.is("13: of bin 1", x.group(1, 0, 1), 0);
        Due.read(x, 0, "@a\nAAATT\n+\n####~\n@b\nAAANTT\n+\n~~~~#}\n");
        x.sort(0, 0);
        DUE.is("13: what stands before the insert", x.group(0, 0, 1), 0);
    }

    // Reads that were grouped before and are short now stand for no tag any more.
    private static void sortedAnew() {
        ReadBins x = new ReadBins();
        Due.barcode(x, "A");
        Due.read(x, 1, ">a\nACCT\n>b\nACCTT\n>c\nACGTT\n");
        for (int way = 0; way < 2; way++) {
            x.limits(0, 0, 1);
            x.sort(2, way);
            DUE.is("13: all", x.group(0, 0, 0) + " " + x.group(0, 0, 2), "3 2");
            x.limits(0, 0, 2);
            x.sort(2, way);
            DUE.is("10: short now", x.about(0, 6), -1);
            DUE.is("10: its group", x.about(1, 6), 0);
            DUE.is("13: two", x.group(0, 0, 0) + " " + x.group(0, 0, 1) + " " + x.group(0, 0, 2), "2 1 2");
        }
        Due.read(x, 1, ">a\nAGGTT\n");
        x.sort(2, 0);
        DUE.is("12: groups", x.bin(0, 2), 1);
        DUE.is("13: one", x.group(0, 0, 0), 1);
    }

    private static void wrongArguments() {
        ReadBins x = new ReadBins();
        DUE.refused("13: no bin 0", Due.INDEX, () -> x.group(0, 0, 0));
        DUE.refused("13: bin -1 before", Due.STATE, () -> x.group(-1, 0, 0));
        Due.barcode(x, "AC");
        Due.read(x, 1, ">a\nACT\n>b\nACTT\n");
        DUE.refused("13: nothing is sorted", Due.STATE, () -> x.group(0, 0, 0));
        DUE.refused("13: a group is sought when sorted", Due.STATE, () -> x.group(0, -1, 0));
        DUE.refused("13: another what comes first", Due.INDEX, () -> x.group(0, 0, 3));
        DUE.refused("13: another bin comes first", Due.INDEX, () -> x.group(1, 0, 0));
        x.sort(0, 0);
        for (int bin : new int[] {-2, -1, 1, Integer.MIN_VALUE, Integer.MAX_VALUE}) {
            DUE.refused("13: bin " + bin, Due.INDEX, () -> x.group(bin, 0, 0));
        }
        for (int g : new int[] {-1, 1, Integer.MIN_VALUE, Integer.MAX_VALUE}) {
            DUE.refused("13: group " + g, Due.INDEX, () -> x.group(0, g, 0));
        }
        for (int what : new int[] {-1, 3, Integer.MIN_VALUE, Integer.MAX_VALUE}) {
            DUE.refused("13: what " + what, Due.INDEX, () -> x.group(0, 0, what));
        }
        DUE.is("13: reads", x.group(0, 0, 0), 2);
    }
}
