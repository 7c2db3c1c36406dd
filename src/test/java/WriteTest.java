/** Promises 14 (write), 15 (out) and 16 (again). */
public final class WriteTest {
    private static final Due DUE = new Due();

    public static void main(String[] args) {
        wholeReads();
        lines();
        binsAndBest();
        emptyInserts();
        wrongArguments();
        roundTrip();
        DUE.end();
    }

    private static void text(ReadBins x, int form, int bin, boolean best, String want) {
        String what = "14: form " + form + " of bin " + bin + (best ? ", best" : "");
        int size = x.write(form, bin, best);
        DUE.is(what, size, want.length());
        DUE.is(what, Due.written(x, size), want);
        DUE.refused("15: behind the end", Due.INDEX, () -> x.out(size));
    }

    private static void wholeReads() {
        ReadBins x = new ReadBins();
        text(x, 0, -2, false, "");
        Due.read(x, 0, "@a/1\nACGTN\n+a/1\n!\"#I~\n@b\nTT\n+\n@+\n");
        text(x, 0, -2, false, "@a/1\nACGTN\n+\n!\"#I~\n@b\nTT\n+\n@+\n");
        text(x, 1, -2, false, ">a/1\nACGTN\n>b\nTT\n");
        text(x, 1, -2, true, ">a/1\nACGTN\n>b\nTT\n");
        Due.barcode(x, "AC");
        x.limits(93, 93, 120);
        x.sort(0, 0);
        text(x, 0, -2, true, "@a/1\nACGTN\n+\n!\"#I~\n@b\nTT\n+\n@+\n");
        Due.read(x, 1, ">c\nGG\n");
        DUE.is("15: what was written stays", x.out(1), 'a');
        text(x, 0, -2, false, "@c\nGG\n+\nII\n");
    }

    private static void lines() {
        for (int letters : new int[] {1, 59, 60, 61}) {
            ReadBins x = new ReadBins();
            Due.read(x, 1, ">n\n" + "A".repeat(letters) + "\n");
            String first = "A".repeat(Math.min(60, letters)) + "\n";
            String second = letters > 60 ? "A".repeat(letters - 60) + "\n" : "";
            text(x, 1, -2, false, ">n\n" + first + second);
            text(x, 0, -2, false, "@n\n" + "A".repeat(letters) + "\n+\n" + "I".repeat(letters) + "\n");
        }
        ReadBins x = new ReadBins();
        Due.barcode(x, "C");
        Due.read(x, 1, ">n\n" + "A".repeat(59) + "G".repeat(61) + "\n");
        x.sort(1, 0);
        text(x, 1, 0, false, ">n\n" + "A".repeat(57) + "GGG\n" + "G".repeat(58) + "\n");
    }

    private static void binsAndBest() {
        ReadBins x = new ReadBins();
        Due.barcode(x, "AAA");
        Due.barcode(x, "CCC");
        x.limits(0, 10, 2);
        Due.read(x, 0, "@a\nAAAGTTT\n+\n~~~~55!\n@b\nCCCGTT\n+\nIIIIII\n@c\nAACGCC\n+\nIIII67\n"
            + "@d\nGGGG\n+\n1234\n@e\nAAAGT\n+\n~~~~~\n@f\nAAATGG\n+\nIIII!I\n@g\nN\n+\nI\n");
        DUE.is("9: sort", x.sort(1, 0), 2);
        text(x, 0, 0, false, "@a\nTT\n+\n55\n@c\nCC\n+\n67\n@f\nGG\n+\n!I\n");
        text(x, 0, 0, true, "@c\nCC\n+\n67\n");
        text(x, 1, 0, false, ">a\nTT\n>c\nCC\n>f\nGG\n");
        text(x, 1, 1, true, ">b\nTT\n");
        text(x, 0, -1, false, "@d\nGGGG\n+\n1234\n");
        text(x, 0, -1, true, "");
        x.sort(1, 1);
        text(x, 1, 0, true, ">c\nCC\n");
    }

    private static void emptyInserts() {
        ReadBins x = new ReadBins();
        Due.barcode(x, "AC");
        x.limits(0, 0, 0);
        Due.read(x, 1, ">a\nAC\n>b\nACG\n>c\nACNN\n");
        x.sort(0, 0);
        text(x, 0, 0, false, "@b\nG\n+\nI\n");
        text(x, 1, 0, false, ">b\nG\n");
        text(x, 1, 0, true, ">b\nG\n");
        Due.read(x, 1, ">a\nAC\n");
        x.sort(0, 0);
        DUE.is("13: best of nothing", x.group(0, 0, 1), 0);
        text(x, 1, 0, true, "");
        DUE.is("16: nothing", x.again(), 0);
    }

    private static void wrongArguments() {
        ReadBins x = new ReadBins();
        Due.read(x, 1, ">a\nACG\n");
        DUE.is("14: write", x.write(1, -2, false), 7);
        for (int form : new int[] {-1, 2, Integer.MIN_VALUE, Integer.MAX_VALUE}) {
            DUE.refused("14: form " + form, Due.ARGUMENT, () -> x.write(form, -2, false));
            DUE.refused("14: the form comes first", Due.ARGUMENT, () -> x.write(form, 7, false));
        }
        DUE.refused("14: bin -1 is not sorted", Due.STATE, () -> x.write(0, -1, false));
        DUE.refused("14: no bin 0", Due.INDEX, () -> x.write(0, 0, false));
        Due.barcode(x, "AC");
        DUE.refused("14: bin 0 is not sorted", Due.STATE, () -> x.write(0, 0, true));
        x.sort(0, 0);
        Due.barcode(x, "GT");
        for (int bin : new int[] {-3, 1, Integer.MIN_VALUE, Integer.MAX_VALUE}) {
            DUE.refused("14: bin " + bin, Due.INDEX, () -> x.write(0, bin, false));
        }
        for (int k : new int[] {-1, 7, 12000, Integer.MIN_VALUE, Integer.MAX_VALUE}) {
            DUE.refused("15: octet " + k, Due.INDEX, () -> x.out(k));
        }
        DUE.is("15: what was written stays", Due.written(x, 7), ">a\nACG\n");
    }

    private static void roundTrip() {
        ReadBins x = new ReadBins();
        Due.read(x, 0, "@a\nACGT\n+\n!5I~\n");
        x.write(0, -2, false);
        x.feed(5, 0x4141414141L);
        DUE.is("16: instead of what is there", x.again(), 15);
        DUE.is("16: what was written stays", x.out(0), '@');
        DUE.is("3: read", x.read(0), 1);
        DUE.is("11: qualities", Due.letters(x, 0, 2), "!5I~");
        DUE.is("16: twice", x.again(), 15);
        x.feed(1, 'X');
        DUE.is("3: read", x.read(0), -2);
        DUE.is("4: place", x.place(), 15);
    }
}
