import java.util.ArrayList;
import java.util.Collections;
import java.util.List;

/** The edges that the document names of groups, both ways, and of the best read (promise 13), each by its words. */
public final class GroupEdgesTest {
    private static final Due DUE = new Due();

    public static void main(String[] args) {
        distanceOfOne();
        onlyByTagsThatAreThere();
        sixtyGroups();
        oneLongChain();
        oneTag();
        tagsWithoutLetters();
        twiceLessOne();
        fullCounts();
        onFromThese();
        inNoneYet();
        orderOfTags();
        numbers();
        bestRead();
        groupIndexes();
        groupsOfEachBin();
        DUE.end();
    }

    /** An object with the barcode A, in which each read has a tag and one letter behind it. */
    private static ReadBins tagged(int u, int way, List<String> tags) {
        ReadBins x = new ReadBins();
        Due.barcode(x, "A");
        StringBuilder text = new StringBuilder();
        for (String tag : tags) {
            text.append(">r\nA").append(tag).append("T\n");
        }
        Due.read(x, 1, text.toString());
        x.sort(u, way);
        return x;
    }

    private static String groups(int u, int way, String tags) {
        List<String> words = List.of(tags.split(" "));
        ReadBins x = tagged(u, way, words);
        StringBuilder text = new StringBuilder();
        for (int i = 0; i < words.size(); i++) {
            text.append(i == 0 ? "" : " ").append(x.about(i, 6));
        }
        return text.toString();
    }

    private static String group(ReadBins x, int bin, int g) {
        return x.group(bin, g, 0) + " " + x.group(bin, g, 1) + " " + x.group(bin, g, 2);
    }

    /** So many reads of the one tag, and so many of the other. */
    private static List<String> counted(String one, int count, String other, int otherCount) {
        List<String> tags = new ArrayList<>(Collections.nCopies(otherCount, other));
        tags.addAll(Collections.nCopies(count, one));
        return tags;
    }

    private static void distanceOfOne() {
        DUE.sentence("each of a DISTANCE of at most 1 from the next");
        for (int way = 0; way < 2; way++) {
            DUE.is("0", groups(4, way, "ACGT ACGT"), "0 0");
            DUE.is("1 at the beginning", groups(4, way, "ACGT CCGT"), "0 0");
            DUE.is("1 at the end", groups(4, way, "ACGT ACGN"), "0 0");
            DUE.is("2", groups(4, way, "ACGT CCGA"), "0 1");
            DUE.is("4", groups(4, way, "ACGT CGTA"), "0 1");
            DUE.is("1 of 12", groups(12, way, "ACGTACGTACGT ACGTACGTACGA"), "0 0");
            DUE.is("2 of 12", groups(12, way, "ACGTACGTACGT CCGTACGTACGA"), "0 1");
            DUE.is("1 of 1", groups(1, way, "A N"), "0 0");
        }
    }

    private static void onlyByTagsThatAreThere() {
        DUE.sentence("by TAGS that are there");
        DUE.is("no tag between", groups(2, 0, "AA CC"), "0 1");
        DUE.is("one between", groups(2, 0, "AA CC AC"), "0 0 0");
        DUE.is("one that comes last joins two", groups(3, 0, "AAA CCC AAC ACC"), "0 0 0 0");
        DUE.sentence("its READS that are not SHORT, by their TAGS");
        ReadBins x = new ReadBins();
        Due.barcode(x, "AAA");
        Due.barcode(x, "CCC");
        x.limits(0, 0, 2);
        // AC of bin 0 is short, that of bin 1 is in another bin: neither is there.
        Due.read(x, 1, ">a\nAAAAATT\n>b\nAAAACT\n>c\nAAACCTT\n>d\nCCCACTT\n>e\nGGGACTT\n");
        for (int way = 0; way < 2; way++) {
            DUE.is("bin -1", x.sort(2, way), 1);
            DUE.is("groups", x.about(0, 6) + " " + x.about(1, 6) + " " + x.about(2, 6) + " " + x.about(3, 6) + " " + x.about(4, 6), "0 -1 1 0 -1");
            DUE.is("of bin 0", x.bin(0, 2), 2);
            DUE.is("of bin 1", x.bin(1, 2), 1);
            DUE.is("of bin -1", x.bin(-1, 2), 0);
        }
        DUE.sentence("COUNT of a TAG: how many of these have it.");
        // GG has three reads, but two of them are short: AA with its two is the greatest.
        Due.read(x, 1, ">a\nAAAGGTT\n>b\nAAAGGT\n>c\nAAAGGT\n>d\nAAAAATT\n>e\nAAAAATT\n");
        x.sort(2, 1);
        DUE.is("short ones do not count", x.about(0, 6) + " " + x.about(3, 6), "1 0");
        // CC has one in bin 0, and two in bin 1.
        Due.read(x, 1, ">a\nAAACCTT\n>b\nCCCCCTT\n>c\nCCCCCTT\n>d\nAAAAATT\n>e\nAAAAATT\n");
        x.sort(2, 1);
        DUE.is("those of another bin do not count", x.about(0, 6) + " " + x.about(3, 6), "1 0");
    }

    private static void sixtyGroups() {
        DUE.sentence("There are at most 60 READS");
        List<String> tags = new ArrayList<>();
        for (int n = 0; n < 60; n++) {
            int[] digits = {n / 16, n / 4 % 4, n % 4, (n / 16 + n / 4 + n) % 4};
            String tag = "";
            for (int digit : digits) {
                tag += "ACGT".charAt(digit);
            }
            tags.add(tag);
        }
        Collections.reverse(tags);
        for (int way = 0; way < 2; way++) {
            ReadBins x = tagged(4, way, tags);
            DUE.is("60 groups", x.bin(0, 2), 60);
            for (int i = 0; i < 60; i++) {
                DUE.is("group of read " + i + ", way " + way, x.about(i, 6), way == 0 ? i : 59 - i);
            }
            for (int g : new int[] {0, 1, 58, 59}) {
                DUE.is("group " + g, group(x, 0, g), "1 " + (way == 0 ? g : 59 - g) + " 1");
            }
            DUE.refused("no group 60", Due.INDEX, () -> x.group(0, 60, 0));
        }
    }

    private static void oneLongChain() {
        DUE.sentence("two TAGS are in one GROUP if one can go from one to the other by TAGS that are there");
        List<String> chain = new ArrayList<>(List.of("AAAAAAAAAAAA"));
        while (chain.size() < 60) {
            String last = chain.get(chain.size() - 1);
            int step = chain.size() - 1;
            int at = step % 12;
            char letter = "CGTNA".charAt(step / 12);
            chain.add(last.substring(0, at) + letter + last.substring(at + 1));
        }
        List<String> mixed = new ArrayList<>();
        for (int n = 0; n < 60; n++) {
            mixed.add(chain.get(n * 37 % 60));
        }
        for (int way = 0; way < 2; way++) {
            ReadBins x = tagged(12, way, mixed);
            DUE.is("one group of 60 tags, way " + way, x.bin(0, 2) + " " + group(x, 0, 0), "1 60 0 60");
            DUE.is("the last read", x.about(59, 6), 0);
        }
        DUE.sentence("each of a DISTANCE of at most 1 from the next");
        // The last tag is near to the first: the chain is a ring, and falls in two where it is broken twice.
        mixed.set(mixed.indexOf(chain.get(30)), chain.get(29));
        DUE.is("broken once", tagged(12, 0, mixed).bin(0, 2), 1);
        mixed.set(mixed.indexOf(chain.get(45)), chain.get(29));
        ReadBins broken = tagged(12, 0, mixed);
        DUE.is("broken twice", broken.bin(0, 2), 2);
        DUE.is("the first part", broken.group(0, 0, 0) + " " + broken.group(0, 0, 2), "46 44");
        DUE.is("the other", broken.group(0, 1, 0) + " " + broken.group(0, 1, 2), "14 14");
    }

    private static void oneTag() {
        DUE.sentence("COUNT of a TAG: how many of these have it.");
        for (int way = 0; way < 2; way++) {
            ReadBins x = tagged(3, way, Collections.nCopies(60, "ACG"));
            DUE.is("60 reads of one tag", x.bin(0, 2) + " " + group(x, 0, 0), "1 60 0 1");
            ReadBins one = tagged(3, way, List.of("ACG"));
            DUE.is("one read", one.bin(0, 2) + " " + group(one, 0, 0), "1 1 0 1");
        }
    }

    private static void tagsWithoutLetters() {
        DUE.sentence("with tags of u LETTERS");
        for (int way = 0; way < 2; way++) {
            ReadBins x = tagged(0, way, List.of("ACG", "TTT", "GGG"));
            DUE.is("u = 0: one group of one tag", x.bin(0, 2) + " " + group(x, 0, 0), "1 3 0 1");
            ReadBins y = tagged(1, way, List.of("ACG", "ATT", "GGG"));
            DUE.is("u = 1: one group of two tags", y.bin(0, 2) + " " + group(y, 0, 0), "1 3 0 2");
        }
    }

    private static void twiceLessOne() {
        for (int other = 1; other <= 6; other++) {
            for (int count = other; count <= 2 * other; count++) {
                DUE.sentence("of whose COUNT twice, less 1, is not above that one's COUNT");
                ReadBins x = tagged(2, 1, counted("AC", count, "AG", other));
                boolean one = 2 * other - 1 <= count;
                DUE.is(other + " to " + count, x.bin(0, 2), one ? 1 : 2);
                DUE.is("the greater begins", x.about(other + count - 1, 6), 0);
                DUE.is("the other", x.about(0, 6), one ? 0 : 1);
                DUE.sentence("have a DISTANCE of 1 from one that is in it");
                ReadBins far = tagged(2, 1, counted("AC", count, "GG", other));
                DUE.is("a distance of 2", far.bin(0, 2), 2);
                ReadBins chain = tagged(2, 0, counted("AC", count, "AG", other));
                DUE.is("way 0 has no such rule", chain.bin(0, 2), 1);
            }
        }
    }

    private static void fullCounts() {
        DUE.sentence("of whose COUNT twice, less 1, is not above that one's COUNT");
        DUE.is("20 to 39", tagged(1, 1, counted("A", 39, "C", 20)).bin(0, 2), 1);
        DUE.is("20 to 38", tagged(1, 1, counted("A", 38, "C", 20)).bin(0, 2), 2);
        DUE.is("1 to 59", tagged(1, 1, counted("A", 59, "C", 1)).bin(0, 2), 1);
        DUE.is("30 to 30", tagged(1, 1, counted("A", 30, "C", 30)).bin(0, 2), 2);
    }

    private static void onFromThese() {
        DUE.sentence("and so on from these");
        DUE.is("1, 1, 1 in a row", groups(3, 1, "AAA AAC ACC CCC"), "0 0 0 0");
        DUE.is("3, 2, 1", groups(2, 1, "AA AA AA AC AC CC"), "0 0 0 0 0 0");
        DUE.is("5, 3, 2, 1", groups(4, 1, "AAAA AAAA AAAA AAAA AAAA AAAC AAAC AAAC AACC AACC ACCC"), "0 0 0 0 0 0 0 0 0 0 0");
        DUE.is("by the count of the one it is near to, not of the first", groups(3, 1,
            "AAA AAA AAA AAA AAA AAC AAC ACC ACC"), "0 0 0 0 0 0 0 1 1");
        DUE.is("the first is near enough itself", groups(3, 1, "AAA AAA AAA AAA AAA AAC AAC AAG AAG"), "0 0 0 0 0 0 0 0 0");
    }

    private static void inNoneYet() {
        DUE.sentence("into it come those that are in none");
        DUE.is("one between two: the greater has it", groups(2, 1, "AA AA CC CC CC AC"), "1 1 0 0 0 0");
        DUE.is("one between two alike: the least has it", groups(2, 1, "CC CC AA AA AC"), "1 1 0 0 0");
        DUE.is("and all that goes on from it", groups(4, 1, "TTAA TTAA TTAA TTTT TTTT TTTA TGTA"), "0 0 0 1 1 0 0");
        DUE.sentence("one that is in no GROUP yet begins one");
        DUE.is("one that is in a group begins none", groups(2, 1, "AA AA AA AC CC CC"), "0 0 0 0 1 1");
    }

    private static void orderOfTags() {
        DUE.sentence("the greatest first (of those alike the least by its LETTERS, A C G N T)");
        DUE.is("by count", groups(2, 1, "AA CC CC GG GG GG"), "2 1 1 0 0 0");
        DUE.is("A C G N T", groups(2, 1, "TT NN GG CC AA"), "4 3 2 1 0");
        DUE.is("N before T", groups(2, 1, "TT NN"), "1 0");
        DUE.is("G before N", groups(2, 1, "NN GG"), "1 0");
        DUE.is("the first letters first", groups(2, 1, "CA AC"), "1 0");
        DUE.is("then the next", groups(3, 1, "ATT ACC"), "1 0");
        DUE.is("then the last", groups(4, 1, "AATA ACCT AAGC"), "1 2 0");
        DUE.is("count before letters", groups(2, 1, "AA TT TT"), "1 0 0");
        DUE.is("all 12 letters", groups(12, 1, "AAAAAAAAAACT AAAAAAAAAAGG AAAAAAAAAATC"), "0 1 2");
    }

    private static void numbers() {
        DUE.sentence("GROUPS are numbered from 0 on, by way 0 as their first READ comes, by way 1 as they begin.");
        DUE.is("way 0", groups(2, 0, "TT AA GG AA TT CC"), "0 1 2 1 0 3");
        DUE.is("way 0, the first read has another tag than the next", groups(3, 0, "TTG AAA TTT AAA"), "0 1 0 1");
        DUE.is("way 1", groups(2, 1, "TT AA GG AA TT CC"), "1 0 3 0 1 2");
        ReadBins x = new ReadBins();
        Due.barcode(x, "A");
        x.limits(0, 0, 2);
        Due.read(x, 1, ">a\nATTT\n>b\nAAATT\n>c\nATTTT\n");
        x.sort(2, 0);
        DUE.is("a short one comes first, but is in none", x.about(0, 6) + " " + x.about(1, 6) + " " + x.about(2, 6), "-1 0 1");
    }

    private static int best(String... qualities) {
        ReadBins x = new ReadBins();
        Due.barcode(x, "A");
        StringBuilder text = new StringBuilder();
        for (String one : qualities) {
            text.append("@r\n").append("A".repeat(one.length())).append("\n+\n").append(one).append("\n");
        }
        Due.read(x, 0, text.toString());
        x.sort(1, 0);
        return x.group(0, 0, 1);
    }

    private static void bestRead() {
        DUE.sentence("The BEST READ of a GROUP has the greatest sum of QUALITIES in its INSERT, of several it is the first.");
        DUE.is("one read", best("!!!"), 0);
        DUE.is("the last", best("!!5", "!!6", "!!7"), 2);
        DUE.is("the first", best("!!7", "!!6", "!!5"), 0);
        DUE.is("two alike", best("!!6", "!!7", "!!7"), 1);
        DUE.is("two alike by different letters", best("!!!6", "!!67", "!!76"), 1);
        DUE.is("sums of 0", best("!!!", "!!!"), 0);
        DUE.is("the head does not count", best("!!6", "~~5"), 0);
        DUE.is("the sum, not the mean", best("!!7", "!!444"), 1);
        DUE.is("120 letters", best("~".repeat(118) + "}", "~".repeat(119), "~".repeat(120), "~".repeat(119)), 2);
        ReadBins x = new ReadBins();
        Due.barcode(x, "A");
        Due.adapter(x, "CCC");
        x.limits(20, 20, 1);
        // What adapter, limits and N took does not count: a is left with 42, and no other with more.
        Due.read(x, 0, "@a\nAGTT\n+\nII66\n@b\nAGTTCCC\n+\nII55~~~\n@c\nAGTTT\n+\nII552\n@d\nAGTTT\n+\nII266\n"
            + "@e\nAGNTTN\n+\nII~55~\n");
        x.sort(1, 0);
        DUE.is("by inserts alone", group(x, 0, 0), "5 0 1");
        DUE.sentence("its READS that are not SHORT");
        x.limits(0, 0, 2);
        Due.read(x, 0, "@a\nAGT\n+\nII~\n@b\nAGTT\n+\nII##\n");
        x.sort(1, 0);
        DUE.is("a short one is never best", group(x, 0, 0), "1 1 1");
        x.limits(0, 0, 0);
        Due.read(x, 0, "@a\nAG\n+\nII\n@b\nAGT\n+\nII!\n@c\nAGT\n+\nII\"\n");
        x.sort(1, 0);
        DUE.is("an insert of no letters has a sum of 0", group(x, 0, 0), "3 2 1");
    }

    private static void groupIndexes() {
        ReadBins x = new ReadBins();
        DUE.sentence("IndexOutOfBoundsException: there is no such BIN or, when SORTED, GROUP (BIN -1 has none), or another what.");
        DUE.refused("no bin 0", Due.INDEX, () -> x.group(0, 0, 0));
        Due.barcode(x, "AAA");
        Due.barcode(x, "CCC");
        Due.read(x, 1, ">a\nAAAT\n>b\nAAATT\n>c\nGGGG\n");
        for (int round = 0; round < 2; round++) {
            for (int bin : new int[] {-2, 2, 16, Integer.MIN_VALUE, Integer.MAX_VALUE}) {
                DUE.refused("group(" + bin + ", 0, 0)", Due.INDEX, () -> x.group(bin, 0, 0));
                DUE.refused("group(" + bin + ", -1, 3)", Due.INDEX, () -> x.group(bin, -1, 3));
            }
            for (int what : new int[] {-1, 3, Integer.MIN_VALUE, Integer.MAX_VALUE}) {
                DUE.refused("group(0, 0, " + what + ")", Due.INDEX, () -> x.group(0, 0, what));
                DUE.refused("group(-1, 0, " + what + ")", Due.INDEX, () -> x.group(-1, 0, what));
            }
            if (round == 0) {
                unsortedGroups(x);
                x.sort(0, 0);
            }
        }
        DUE.sentence("IndexOutOfBoundsException: there is no such BIN or, when SORTED, GROUP (BIN -1 has none), or another what.");
        for (int what = 0; what < 3; what++) {
            int w = what;
            for (int g : new int[] {-1, 1, 60, Integer.MIN_VALUE, Integer.MAX_VALUE}) {
                DUE.refused("group(0, " + g + ", " + what + ")", Due.INDEX, () -> x.group(0, g, w));
            }
            for (int g = -1; g < 2; g++) {
                int one = g;
                DUE.refused("group(-1, " + g + ", " + what + ")", Due.INDEX, () -> x.group(-1, one, w));
                DUE.refused("group(1, " + g + ", " + what + ") of an empty bin", Due.INDEX, () -> x.group(1, one, w));
            }
        }
        DUE.sentence("how many READS are in it (what = 0), its BEST READ (1), how many TAGS (2)");
        DUE.is("the one that there is", group(x, 0, 0), "2 1 1");
    }

    private static void unsortedGroups(ReadBins x) {
        DUE.sentence("IllegalStateException: nothing is SORTED.");
        for (int bin = -1; bin < 2; bin++) {
            for (int what = 0; what < 3; what++) {
                for (int g : new int[] {-1, 0, 60}) {
                    int b = bin;
                    int w = what;
                    DUE.refused("group(" + bin + ", " + g + ", " + what + ")", Due.STATE, () -> x.group(b, g, w));
                }
            }
        }
    }

    private static void groupsOfEachBin() {
        DUE.sentence("GROUPS of a BIN (0 on)");
        ReadBins x = new ReadBins();
        StringBuilder text = new StringBuilder();
        for (int b = 0; b < 16; b++) {
            String barcode = "" + "ACGT".charAt(b / 4) + "ACGT".charAt(b % 4);
            Due.barcode(x, barcode);
            text.insert(0, ">r\n" + barcode + "AAT\n>r\n" + barcode + "CCTT\n>r\n" + barcode + "CCT\n");
        }
        Due.read(x, 1, text.toString());
        for (int way = 0; way < 2; way++) {
            x.sort(2, way);
            for (int b = 0; b < 16; b++) {
                int first = 3 * (15 - b);
                int ofA = way == 0 ? 0 : 1;
                DUE.is("groups of bin " + b, x.bin(b, 2), 2);
                DUE.is("A of bin " + b, group(x, b, ofA), "1 " + first + " 1");
                DUE.is("C of bin " + b, group(x, b, 1 - ofA), "2 " + (first + 1) + " 1");
            }
        }
    }
}
