/** Promises 3 (read), 4 (place), 10 (about) of what is read, and 11 (letter). */
public final class ReadTest {
    private static final Due DUE = new Due();
    private static final String NAME_40 = "n".repeat(40);
    private static final String LETTERS_120 = "ACGTN".repeat(24);
    private static final String ONE_READ = "@a\nA\n+\nI\n";

    public static void main(String[] args) {
        withQualities();
        lettersAlone();
        edgesThatHold();
        everyEnd();
        wrongOctetsWithQualities();
        wrongOctetsOfLetters();
        tooLong();
        tooManyReads();
        faultsLeaveWhatIsThere();
        manyTexts();
        wrongForms();
        wrongIndexes();
        DUE.end();
    }

    private static void withQualities() {
        ReadBins x = new ReadBins();
        DUE.is("3: form 0", Due.read(x, 0, "@a\nACGTN\n+\n!I~\"#\n@+@\nTT\n++@\n@@\n"), 2);
        DUE.is("4: no fault", x.place(), -1);
        DUE.is("8: reads", x.told(3), 2);
        DUE.is("10: name", x.about(1, 0), 2);
        DUE.is("10: letters", x.about(0, 1), 5);
        DUE.is("11: name", Due.letters(x, 1, 0), "+@");
        DUE.is("11: letters", Due.letters(x, 0, 1), "ACGTN");
        DUE.is("11: qualities", Due.letters(x, 0, 2), "!I~\"#");
        DUE.is("11: least quality", x.letter(0, 2, 0), 0);
        DUE.is("11: greatest quality", x.letter(0, 2, 2), 93);
        DUE.is("11: qualities that are @", x.letter(1, 2, 1), 31);
        DUE.is("3: the tape was used up", x.read(0), -1);
        DUE.is("4: place", x.place(), 0);
    }

    private static void lettersAlone() {
        ReadBins x = new ReadBins();
        DUE.is("3: form 1", Due.read(x, 1, ">a>b\nAC\nG\nTN\n>c\nT\n"), 2);
        DUE.is("11: name", Due.letters(x, 0, 0), "a>b");
        DUE.is("11: letters of three lines", Due.letters(x, 0, 1), "ACGTN");
        DUE.is("11: letters", Due.letters(x, 1, 1), "T");
        DUE.is("11: quality", x.letter(0, 2, 4), 40);
        DUE.is("11: quality", x.letter(1, 2, 0), 40);
        DUE.is("3: form 0 behind it", Due.read(x, 0, "@c\nT\n+\n#\n"), 1);
        DUE.is("11: quality", x.letter(0, 2, 0), 2);
        DUE.is("8: reads", x.told(3), 1);
    }

    private static void edgesThatHold() {
        ReadBins x = new ReadBins();
        DUE.is("3: longest", Due.read(x, 0, "@" + NAME_40 + "\n" + LETTERS_120 + "\n+" + NAME_40 + "\n" + "~".repeat(120) + "\n"), 1);
        DUE.is("10: name", x.about(0, 0), 40);
        DUE.is("10: letters", x.about(0, 1), 120);
        DUE.is("11: last octet", x.letter(0, 0, 39), 'n');
        DUE.is("11: last letter", x.letter(0, 1, 119), 'N');
        DUE.is("11: last quality", x.letter(0, 2, 119), 93);
        DUE.is("3: longest in form 1", Due.read(x, 1, ">" + NAME_40 + "\n" + LETTERS_120 + "\n>!~\n" + "A\n".repeat(120)), 2);
        DUE.is("10: letters", x.about(1, 1), 120);
        DUE.is("3: 60 reads", Due.read(x, 0, ONE_READ.repeat(60)), 60);
        DUE.is("3: 60 reads in form 1", Due.read(x, 1, ">a\nC\n".repeat(60)), 60);
        DUE.is("11: of the last", x.letter(59, 1, 0), 'C');
        DUE.is("4: no fault", x.place(), -1);
    }

    // Each text is cut behind each of its octets: only where a read ends it is whole.
    private static void everyEnd() {
        everyEnd(0, "@ab\nACG\n+ab\nIII\n@c\nT\n+\n#\n", 16);
        everyEnd(1, ">ab\nAC\nG\n>c\nT\n", 7, 9);
    }

    private static void everyEnd(int form, String text, int... whole) {
        for (int end = 0; end < text.length(); end++) {
            boolean isWhole = false;
            for (int one : whole) {
                isWhole |= one == end;
            }
            ReadBins x = new ReadBins();
            String what = "form " + form + " cut at " + end;
            DUE.is("3: " + what, Due.read(x, form, text.substring(0, end)), isWhole ? 1 : -1);
            DUE.is("4: " + what, x.place(), isWhole ? -1 : end);
        }
    }

    private static void wrongOctetsWithQualities() {
        fault(0, ">a\nA\n+\nI\n", 2, 0);
        fault(0, "\n" + ONE_READ, 2, 0);
        fault(0, ONE_READ + "\n", 2, 9);
        fault(0, ONE_READ + "A", 2, 9);
        fault(0, "@\nA\n+\nI\n", 2, 1);
        fault(0, "@a b\nA\n+\nI\n", 2, 2);
        fault(0, "@a\u007f\nA\n+\nI\n", 2, 2);
        fault(0, "@a\r\nA\n+\nI\n", 2, 2);
        fault(0, "@a\n\n+\n\n", 2, 3);
        fault(0, "@a\nAa\n+\nII\n", 2, 4);
        fault(0, "@a\n+\nII\n", 2, 3);
        fault(0, "@a\nA\nA\n+\nII\n", 2, 5);
        fault(0, "@a\nA\n\n", 2, 5);
        fault(0, "@ab\nA\n+b\nI\n", 2, 7);
        fault(0, "@ab\nA\n+ac\nI\n", 2, 8);
        fault(0, "@ab\nA\n+a\nI\n", 2, 8);
        fault(0, "@ab\nA\n+abc\nI\n", 2, 9);
        fault(0, "@ab\nA\n+ab ", 2, 9);
        fault(0, "@a\nAC\n+\n I\n", 2, 8);
        fault(0, "@a\nAC\n+\nI\u007f\n", 2, 9);
        fault(0, "@a\nAC\n+\nI\n", 2, 9);
        fault(0, "@a\nAC\n+\nIII\n", 2, 10);
        fault(0, "@a\nA\n+\n\n", 2, 7);
    }

    private static void wrongOctetsOfLetters() {
        fault(1, "@a\nA\n", 2, 0);
        fault(1, "A\n", 2, 0);
        fault(1, "\n", 2, 0);
        fault(1, ">\nA\n", 2, 1);
        fault(1, ">a\tb\nA\n", 2, 2);
        fault(1, ">a\n\nA\n", 2, 3);
        fault(1, ">a\n>b\nA\n", 2, 3);
        fault(1, ">a\nA\n\n", 2, 5);
        fault(1, ">a\nA>b\nA\n", 2, 4);
        fault(1, ">a\nA\n+\n", 2, 5);
        fault(1, ">a\nAx\n", 2, 4);
    }

    private static void tooLong() {
        fault(0, "@" + NAME_40 + "n\nA\n+\nI\n", 3, 41);
        fault(0, "@" + NAME_40 + " \nA\n+\nI\n", 2, 41);
        fault(1, ">" + NAME_40 + "n\nA\n", 3, 41);
        fault(0, "@a\n" + LETTERS_120 + "A\n", 3, 123);
        fault(0, "@a\n" + LETTERS_120 + "X\n", 2, 123);
        fault(1, ">a\n" + LETTERS_120 + "A\n", 3, 123);
        fault(1, ">a\n" + LETTERS_120 + "\nA\n", 3, 124);
        fault(1, ">a\n" + LETTERS_120 + "\nX\n", 2, 124);
        fault(0, "@" + NAME_40 + "\nA\n+" + NAME_40 + "n", 2, 85);
    }

    private static void tooManyReads() {
        fault(0, ONE_READ.repeat(61), 4, 540);
        fault(0, ONE_READ.repeat(60) + "@", 4, 540);
        fault(0, ONE_READ.repeat(60) + "\n", 2, 540);
        fault(1, ">a\nC\n".repeat(61), 4, 300);
        fault(1, ">a\nC\n".repeat(60) + "C\n>", 4, 302);
    }

    private static void fault(int form, String text, int number, int place) {
        ReadBins x = new ReadBins();
        String what = "form " + form + " of " + text.replace('\n', '|');
        DUE.is("3: " + what, Due.read(x, form, text), -number);
        DUE.is("4: " + what, x.place(), place);
        DUE.is("3: the tape was used up", x.feed(1, 65), 1);
        DUE.is("8: no reads", x.told(3), 0);
    }

    private static void faultsLeaveWhatIsThere() {
        ReadBins x = new ReadBins();
        Due.read(x, 0, "@name\nACG\n+\n!!!\n");
        x.sort(0, 0);
        DUE.is("3: fault 2", Due.read(x, 0, "@other\nTTTT\n+\n~~ \n"), -2);
        DUE.is("4: place", x.place(), 16);
        DUE.is("3: the name stays", Due.letters(x, 0, 0), "name");
        DUE.is("3: the letters stay", Due.letters(x, 0, 1), "ACG");
        DUE.is("3: the qualities stay", Due.letters(x, 0, 2), "!!!");
        DUE.is("3: it stays sorted", x.about(0, 4), 3);
        DUE.is("3: fault 1", Due.read(x, 1, ">r\nA"), -1);
        DUE.is("4: the last place", x.place(), 4);
        DUE.is("3: it stays sorted", x.bin(-1, 0), 1);
        DUE.is("3: read", Due.read(x, 1, ">r\nA\n"), 1);
        DUE.is("4: the last fault's place stays", x.place(), 4);
        DUE.is("3: nothing is sorted", x.about(0, 4), -1);
        DUE.refused("3: nothing is sorted", Due.STATE, () -> x.bin(-1, 0));
    }

    // Together far more octets than one tape has, with faults between them.
    private static void manyTexts() {
        ReadBins x = new ReadBins();
        DUE.is("16: a long text", Due.fill(x, 5990), 5990);
        for (int n = 0; n < 10; n++) {
            DUE.is("3: text " + n, x.read(0), 25);
            DUE.is("11: the last letter of text " + n, x.letter(24, 1, x.about(24, 1) - 1), 'C');
            DUE.is("11: the last quality of text " + n, x.letter(24, 2, x.about(24, 1) - 1), 40);
            x.again();
            x.feed(1, 'A');
            DUE.is("3: a fault", x.read(0), -2);
            DUE.is("4: its place", x.place(), 5990);
            x.again();
        }
    }

    private static void wrongForms() {
        ReadBins x = new ReadBins();
        Due.feed(x, ONE_READ);
        for (int form : new int[] {-1, 2, Integer.MIN_VALUE, Integer.MAX_VALUE}) {
            DUE.refused("3: form " + form, Due.ARGUMENT, () -> x.read(form));
        }
        DUE.is("4: no fault", x.place(), -1);
        DUE.is("3: the tape is there", x.read(0), 1);
    }

    private static void wrongIndexes() {
        ReadBins x = new ReadBins();
        Due.read(x, 0, "@ab\nACG\n+\nIII\n@c\nT\n+\n#\n");
        int[] wrong = {-1, 2, 60, Integer.MIN_VALUE, Integer.MAX_VALUE};
        for (int i : wrong) {
            DUE.refused("10: read " + i, Due.INDEX, () -> x.about(i, 0));
            DUE.refused("11: read " + i, Due.INDEX, () -> x.letter(i, 1, 0));
            DUE.refused("11: octet " + i, Due.INDEX, () -> x.letter(0, 0, i));
        }
        for (int what : new int[] {-1, 7, Integer.MIN_VALUE, Integer.MAX_VALUE}) {
            DUE.refused("10: what " + what, Due.INDEX, () -> x.about(0, what));
        }
        for (int which : new int[] {-1, 3, Integer.MIN_VALUE, Integer.MAX_VALUE}) {
            DUE.refused("11: which " + which, Due.INDEX, () -> x.letter(0, which, 0));
        }
        for (int k : new int[] {-1, 3, Integer.MIN_VALUE, Integer.MAX_VALUE}) {
            DUE.refused("11: letter " + k, Due.INDEX, () -> x.letter(0, 1, k));
            DUE.refused("11: quality " + k, Due.INDEX, () -> x.letter(0, 2, k));
        }
        DUE.is("11: last letter", x.letter(0, 1, 2), 'G');
        for (int what = 2; what <= 6; what++) {
            DUE.is("10: nothing is sorted, what " + what, x.about(0, what), -1);
        }
    }
}
