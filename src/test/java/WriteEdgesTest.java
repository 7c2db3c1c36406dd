/** The edges that the document names of write, out and again (promises 14 to 16), each by its words. */
public final class WriteEdgesTest {
    private static final Due DUE = new Due();
    private static final int[] FAR = {Integer.MIN_VALUE, Integer.MAX_VALUE};

    public static void main(String[] args) {
        wholeReads();
        insertsAlone();
        bestAlone();
        withoutLetters();
        linesOfSixty();
        longest();
        forms();
        binsThatAreNone();
        notSorted();
        outIndexes();
        nothingWritten();
        upToSixThousand();
        insteadOfWhatIsThere();
        DUE.end();
    }

    private static String text(ReadBins x, int form, int bin, boolean best) {
        int size = x.write(form, bin, best);
        String text = Due.written(x, size);
        DUE.refused("octet " + size + " of " + size, Due.INDEX, () -> x.out(size));
        return text;
    }

    private static void wholeReads() {
        DUE.sentence("all READS whole (bin = -2)");
        ReadBins x = new ReadBins();
        DUE.is("none", text(x, 0, -2, false) + text(x, 1, -2, true), "");
        Due.barcode(x, "A");
        Due.adapter(x, "GGG");
        x.limits(93, 93, 120);
        Due.read(x, 0, "@a\nANGGGN\n+a\n!\"#$%&\n@a\nT\n+\n~\n");
        String due = "@a\nANGGGN\n+\n!\"#$%&\n@a\nT\n+\n~\n";
        DUE.is("before it is sorted", text(x, 0, -2, false), due);
        x.sort(1, 0);
        DUE.is("all short", x.bin(-1, 1) + x.bin(0, 1), 2);
        DUE.is("when it is sorted", text(x, 0, -2, false), due);
        DUE.sentence("if best (not of -2)");
        DUE.is("best", text(x, 0, -2, true), due);
        DUE.is("best in form 1", text(x, 1, -2, true), ">a\nANGGGN\n>a\nT\n");
        DUE.sentence("In FORM 0 nothing is behind +");
        Due.read(x, 0, "@+@>\nA\n++@>\n+\n");
        DUE.is("form 0", text(x, 0, -2, false), "@+@>\nA\n+\n+\n");
        DUE.sentence("all QUALITIES are 40");
        Due.read(x, 1, ">a\nAC\nGT\n");
        DUE.is("form 0", text(x, 0, -2, false), "@a\nACGT\n+\nIIII\n");
    }

    private static ReadBins sorted() {
        ReadBins x = new ReadBins();
        Due.barcode(x, "AAA");
        Due.barcode(x, "CCC");
        x.limits(0, 0, 2);
        Due.read(x, 0, "@a\nAAAGTT\n+\nIIII56\n@b\nCCCTGGN\n+\nIIII789\n@c\nAAAGT\n+\nIIIII\n@d\nTTTT\n+\n1234\n"
            + "@e\nAAAGGG\n+\n!!!!65\n@f\nNTTN\n+\nIIII\n@g\nTN\n+\nII\n@h\nAAACCCC\n+\n!!!!!!!\n");
        x.sort(1, 1);
        return x;
    }

    private static void insertsAlone() {
        DUE.sentence("or those of a BIN that are not SHORT, their INSERTS alone, in order");
        ReadBins x = sorted();
        DUE.is("bin 0", text(x, 0, 0, false), "@a\nTT\n+\n56\n@e\nGG\n+\n65\n@h\nCCC\n+\n!!!\n");
        DUE.is("bin 1", text(x, 0, 1, false), "@b\nGG\n+\n78\n");
        DUE.is("bin -1", text(x, 0, -1, false), "@d\nTTTT\n+\n1234\n@f\nTT\n+\nII\n");
        DUE.is("bin 0 in form 1", text(x, 1, 0, false), ">a\nTT\n>e\nGG\n>h\nCCC\n");
        x.limits(0, 0, 5);
        x.sort(1, 0);
        DUE.is("all are short", text(x, 0, 0, false) + text(x, 1, 1, true) + text(x, 0, -1, false), "");
        Due.read(x, 1, ">a\nAAAGTTTTT\n");
        x.sort(0, 0);
        DUE.is("an empty bin", text(x, 0, 1, false) + text(x, 0, -1, false), "");
    }

    private static void bestAlone() {
        DUE.sentence("just those that are the BEST of their GROUP (of BIN -1 then none)");
        ReadBins x = sorted();
        // G of a and e and C of h are near: of the three a comes before e, which is as good.
        DUE.is("bin 0", text(x, 0, 0, true), "@a\nTT\n+\n56\n");
        DUE.is("bin 1", text(x, 1, 1, true), ">b\nGG\n");
        DUE.is("bin -1", text(x, 0, -1, true) + text(x, 1, -1, true), "");
        ReadBins y = new ReadBins();
        Due.barcode(y, "A");
        Due.read(y, 0, "@a\nAGGT\n+\nIII5\n@b\nATTC\n+\nIII5\n@c\nAGGG\n+\nIII6\n@d\nATTT\n+\nIII4\n");
        for (int way = 0; way < 2; way++) {
            y.sort(2, way);
            DUE.is("in the order of reads", text(y, 1, 0, true), ">b\nC\n>c\nG\n");
        }
    }

    private static void withoutLetters() {
        DUE.sentence("What has no LETTERS is left out.");
        ReadBins x = new ReadBins();
        Due.barcode(x, "AC");
        x.limits(0, 0, 0);
        Due.read(x, 1, ">a\nAC\n>b\nACT\n>c\nACNN\n");
        x.sort(0, 0);
        DUE.is("not short", x.bin(0, 1), 0);
        DUE.is("form 0", text(x, 0, 0, false), "@b\nT\n+\nI\n");
        DUE.is("form 1", text(x, 1, 0, false), ">b\nT\n");
        Due.read(x, 1, ">a\nAC\n>c\nACNN\n");
        x.sort(0, 0);
        DUE.is("best of a group", x.group(0, 0, 1), 0);
        DUE.is("nothing", x.write(0, 0, true), 0);
        DUE.refused("no octet", Due.INDEX, () -> x.out(0));
        Due.read(x, 1, ">a\nN\n>b\nG\n>c\nNN\n");
        x.sort(0, 0);
        DUE.is("of bin -1", text(x, 1, -1, false), ">b\nG\n");
        DUE.is("whole reads have letters", text(x, 1, -2, false), ">a\nN\n>b\nG\n>c\nNN\n");
    }

    private static void linesOfSixty() {
        DUE.sentence("in FORM 1 lines have at most 60 LETTERS");
        String letters = "ACGTN".repeat(24);
        for (int count : new int[] {1, 59, 60, 61, 119, 120}) {
            ReadBins x = new ReadBins();
            String own = letters.substring(0, count);
            Due.read(x, 1, ">n\n" + own + "\n");
            String due = count <= 60 ? ">n\n" + own + "\n" : ">n\n" + own.substring(0, 60) + "\n" + own.substring(60) + "\n";
            DUE.is(count + " letters", text(x, 1, -2, false), due);
            ReadBins y = new ReadBins();
            Due.read(y, 1, ">n\n" + own + "\n");
            DUE.is(count + " letters in form 0", y.write(0, -2, false), 2 * count + 7);
            DUE.is("the last quality", y.out(2 * count + 5), 'I');
        }
        // Lines begin with the insert, not with the read.
        ReadBins x = new ReadBins();
        Due.barcode(x, "AC");
        Due.read(x, 1, ">n\nACG" + "T".repeat(60) + "\n>m\nACG" + "T".repeat(61) + "\n");
        x.sort(1, 0);
        DUE.is("inserts of 60 and 61", text(x, 1, 0, false), ">n\n" + "T".repeat(60) + "\n>m\n" + "T".repeat(60) + "\nT\n");
    }

    // On a tape of form 1 a read with a name of n octets and m letters in one line takes n + m + 3 octets, in form 0 it
    // takes n + 2 m + 6: twice as many, less n. With 6000 octets and at most 120 letters a read the most is 11951, by 49
    // reads with names of one octet. So no text is too long for write(), and just long ones can be tried.
    private static void longest() {
        DUE.sentence("NONE when they would be more than 12000");
        ReadBins x = new ReadBins();
        // What 512 calls are enough for: a form 1 of 4000 octets, half of it fed before, half behind again().
        String half = (">n\n" + "A".repeat(120) + "\n").repeat(16);
        Due.read(x, 1, half);
        DUE.is("form 1", x.write(1, -2, false), 16 * 125);
        DUE.is("on the tape", x.again(), 2000);
        DUE.is("with as much behind it", Due.feed(x, half.substring(0, 124 * 15)), 3860);
        DUE.is("read", x.read(1), 31);
        DUE.is("form 0", x.write(0, -2, false), 31 * 247);
        DUE.is("the last octet", x.out(31 * 247 - 1), '\n');
        DUE.is("the last quality", x.out(31 * 247 - 2), 'I');
        DUE.refused("behind it", Due.INDEX, () -> x.out(31 * 247));
        DUE.is("again", x.again(), -1);
    }

    private static void forms() {
        DUE.sentence("IllegalArgumentException: the FORM is not 0 or 1.");
        ReadBins x = sorted();
        DUE.is("written before", x.write(1, 1, false), 6);
        for (int form : new int[] {-1, 2, 3, FAR[0], FAR[1]}) {
            for (int bin : new int[] {-3, -2, -1, 0, 1, 2}) {
                DUE.refused("write(" + form + ", " + bin + ")", Due.ARGUMENT, () -> x.write(form, bin, false));
                DUE.refused("write(" + form + ", " + bin + ") best", Due.ARGUMENT, () -> x.write(form, bin, true));
            }
        }
        DUE.is("what was written stays", Due.written(x, 6), ">b\nGG\n");
        ReadBins y = new ReadBins();
        DUE.refused("the form before the bin and before what is not sorted", Due.ARGUMENT, () -> y.write(2, 0, false));
        DUE.refused("the form before what is not sorted", Due.ARGUMENT, () -> y.write(2, -1, false));
    }

    private static void binsThatAreNone() {
        DUE.sentence("IndexOutOfBoundsException: there is no such BIN.");
        ReadBins x = sorted();
        DUE.is("written before", x.write(1, 1, false), 6);
        for (int bin : new int[] {-3, -4, 2, 3, 16, FAR[0], FAR[1]}) {
            for (int form = 0; form < 2; form++) {
                int f = form;
                DUE.refused("write(" + form + ", " + bin + ")", Due.INDEX, () -> x.write(f, bin, false));
                DUE.refused("write(" + form + ", " + bin + ") best", Due.INDEX, () -> x.write(f, bin, true));
            }
        }
        DUE.is("what was written stays", Due.written(x, 6), ">b\nGG\n");
        ReadBins y = new ReadBins();
        DUE.refused("the bin before what is not sorted", Due.INDEX, () -> y.write(0, 0, false));
        DUE.refused("the bin before what is not sorted", Due.INDEX, () -> y.write(0, -3, false));
    }

    private static void notSorted() {
        DUE.sentence("IllegalStateException: nothing is SORTED, and bin is not -2.");
        ReadBins x = new ReadBins();
        Due.barcode(x, "AC");
        Due.read(x, 1, ">a\nACG\n");
        for (int form = 0; form < 2; form++) {
            int f = form;
            for (int bin = -1; bin < 1; bin++) {
                int b = bin;
                DUE.refused("write(" + form + ", " + bin + ")", Due.STATE, () -> x.write(f, b, false));
                DUE.refused("write(" + form + ", " + bin + ") best", Due.STATE, () -> x.write(f, b, true));
            }
        }
        DUE.refused("nothing was written", Due.INDEX, () -> x.out(0));
        DUE.is("-2 is", x.write(1, -2, false), 7);
        x.sort(0, 0);
        DUE.is("sorted", text(x, 1, 0, false), ">a\nG\n");
        Due.read(x, 1, ">a\nACT\n");
        DUE.refused("not sorted any more", Due.STATE, () -> x.write(1, 0, false));
        DUE.is("what was written stays", Due.written(x, 5), ">a\nG\n");
    }

    private static void outIndexes() {
        DUE.sentence("Octet k of what was WRITTEN last. IndexOutOfBoundsException.");
        ReadBins x = new ReadBins();
        for (int k : new int[] {-1, 0, 1, 11999, 12000, FAR[0], FAR[1]}) {
            DUE.refused("before, out(" + k + ")", Due.INDEX, () -> x.out(k));
        }
        Due.read(x, 0, "@a\nACG\n+\nI5~\n");
        x.write(0, -2, false);
        DUE.is("13 octets", Due.written(x, 13), "@a\nACG\n+\nI5~\n");
        for (int k : new int[] {-1, 13, 14, 6000, 11999, 12000, FAR[0], FAR[1]}) {
            DUE.refused("out(" + k + ")", Due.INDEX, () -> x.out(k));
        }
        x.write(1, -2, false);
        DUE.is("7 octets", Due.written(x, 7), ">a\nACG\n");
        DUE.refused("nothing of the longer one is left", Due.INDEX, () -> x.out(7));
        Due.read(x, 1, ">b\nT\n");
        x.sort(0, 0);
        DUE.is("reading and sorting leave it", Due.written(x, 7), ">a\nACG\n");
        x.write(1, -1, true);
        DUE.refused("what is written last may be nothing", Due.INDEX, () -> x.out(0));
    }

    private static void nothingWritten() {
        DUE.sentence("What was WRITTEN last comes on the tape, instead of what is there. Answers its size");
        ReadBins x = new ReadBins();
        x.feed(5, 0x4141414141L);
        DUE.is("before anything was written", x.again(), 0);
        DUE.is("the tape is empty", x.feed(1, 65), 1);
        DUE.is("a text of nothing", x.write(0, -2, false), 0);
        DUE.is("nothing again", x.again(), 0);
        DUE.is("the tape is empty", x.feed(1, 65), 1);
    }

    private static void upToSixThousand() {
        DUE.sentence("NONE when it is more than 6000");
        for (int size : new int[] {5999, 6000, 6001, 6002, 6200}) {
            ReadBins x = new ReadBins();
            Due.read(x, 1, Due.lettersFor(size));
            DUE.is("written", x.write(0, -2, false), size);
            x.feed(3, 0x414243);
            DUE.is(size + " octets", x.again(), size <= 6000 ? size : -1);
            DUE.is("what was written stays", x.out(size - 1), '\n');
            DUE.refused("and no more", Due.INDEX, () -> x.out(size));
            if (size == 6000) {
                DUE.refused("the tape is full", Due.ARGUMENT, () -> x.feed(1, 65));
            } else {
                DUE.is("the tape", x.feed(1, 65), size < 6000 ? size + 1 : 4);
            }
        }
    }

    private static void insteadOfWhatIsThere() {
        DUE.sentence("What was WRITTEN last comes on the tape, instead of what is there.");
        ReadBins x = new ReadBins();
        Due.read(x, 0, "@a\nACGT\n+\n!5I~\n");
        x.write(0, -2, false);
        Due.feed(x, "a text that is longer than what was written");
        DUE.is("instead of more", x.again(), 15);
        DUE.is("twice", x.again(), 15);
        DUE.is("read", x.read(0), 1);
        DUE.is("it", Due.letters(x, 0, 0) + " " + Due.letters(x, 0, 1) + " " + Due.letters(x, 0, 2), "a ACGT !5I~");
        DUE.is("again, when the tape is empty", x.again(), 15);
        DUE.is("what was written stays", Due.written(x, 15), "@a\nACGT\n+\n!5I~\n");
        DUE.is("more comes behind it", Due.feed(x, "@b\nT\n+\n#\n"), 24);
        DUE.is("what was written has none of it", Due.written(x, 15), "@a\nACGT\n+\n!5I~\n");
        DUE.refused("nor behind it", Due.INDEX, () -> x.out(15));
        DUE.is("two reads", x.read(0), 2);
        DUE.is("the second", Due.letters(x, 1, 0) + " " + Due.letters(x, 1, 1) + " " + Due.letters(x, 1, 2), "b T #");
        ReadBins y = new ReadBins();
        Due.barcode(y, "ACG");
        Due.read(y, 1, ">a\nACGT\n");
        y.sort(0, 0);
        y.again();
        DUE.is("it leaves what is sorted", Due.sorted(y, 0), "0 3 4 0 0");
    }
}
