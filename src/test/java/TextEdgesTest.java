/** The edges that the document names of texts, their faults and places (promises 3, 4) and of letter (11), each by its words. */
public final class TextEdgesTest {
    private static final Due DUE = new Due();
    private static final String LETTERS = "ACGTN";
    private static final String LETTERS_120 = LETTERS.repeat(24);
    private static final String NAME_40 = "n".repeat(40);
    private static final String SIGNS = signs();

    public static void main(String[] args) {
        noText();
        marks();
        names();
        letters();
        behindPlus();
        qualities();
        linesOfLetters();
        lineEnds();
        tooLong();
        tooManyReads();
        firstFault();
        everyEnd();
        whatStays();
        placeOfTheLast();
        indexes();
        DUE.end();
    }

    private static String signs() {
        StringBuilder all = new StringBuilder();
        for (char c = 33; c <= 126; c++) {
            all.append(c);
        }
        return all.toString();
    }

    /** Behind a text each octet is tried: those that may stand there, those that are a fault of a number, the others. */
    private static void octetsBehind(int form, String before, String good, int number, String faulty) {
        for (char octet = 0; octet < 256; octet++) {
            ReadBins x = new ReadBins();
            String what = "form " + form + ", octet " + (int) octet + " behind " + end(before);
            int answer = Due.read(x, form, before + octet);
            if (good.indexOf(octet) >= 0) {
                DUE.is(what, answer == -1 || answer > 0, true);
                DUE.is(what + ": place", x.place(), answer == -1 ? before.length() + 1 : -1);
            } else {
                DUE.is(what, answer, faulty.indexOf(octet) >= 0 ? -number : -2);
                DUE.is(what + ": place", x.place(), before.length());
            }
        }
    }

    private static void octetsBehind(int form, String before, String good) {
        octetsBehind(form, before, good, 2, "");
    }

    private static String end(String text) {
        String line = text.replace('\n', '|');
        return line.length() < 20 ? line : ".." + line.substring(line.length() - 18);
    }

    private static void good(int form, String text, int count) {
        ReadBins x = new ReadBins();
        DUE.is("form " + form + " of " + end(text), Due.read(x, form, text), count);
        DUE.is("reads", x.told(3), count);
        DUE.is("place", x.place(), -1);
    }

    private static void fault(int form, String text, int number, int place) {
        ReadBins x = new ReadBins();
        String what = "form " + form + " of " + end(text);
        DUE.is(what, Due.read(x, form, text), -number);
        DUE.is(what + ": place", x.place(), place);
        DUE.is(what + ": reads", x.told(3), 0);
    }

    private static void noText() {
        DUE.sentence("A text has one READ or more.");
        for (int form = 0; form < 2; form++) {
            fault(form, "", 1, 0);
        }
        good(0, "@a\nA\n+\nI\n", 1);
        good(1, ">a\nA\n", 1);
        good(0, "@a\nA\n+\nI\n@a\nA\n+\nI\n", 2);
        good(1, ">a\nA\n>a\nA\n", 2);
    }

    private static void marks() {
        DUE.sentence("the first one of a line that is not @, + or > (in FORM 1 where a line of LETTERS may not stand, too)");
        octetsBehind(0, "", "@");
        octetsBehind(0, "@a\nA\n+\nI\n", "@");
        octetsBehind(0, "@a\nA\n", "+");
        octetsBehind(0, "@a\nA\n+\nI\n@b\nACG\n", "+");
        octetsBehind(1, "", ">");
        octetsBehind(1, ">a\nA\n", ">" + LETTERS);
        octetsBehind(1, ">a\nA\n>b\nA\nA\n", ">" + LETTERS);
    }

    private static void names() {
        DUE.sentence("in a NAME one that is not 33 .. 126");
        for (int form = 0; form < 2; form++) {
            String mark = form == 0 ? "@" : ">";
            octetsBehind(form, mark, SIGNS);
            octetsBehind(form, mark + "n", SIGNS + "\n");
            octetsBehind(form, mark + "n".repeat(39), SIGNS + "\n");
        }
        DUE.sentence("each with a NAME (1 .. 40 octets 33 .. 126)");
        good(0, "@!\nA\n+\nI\n", 1);
        good(0, "@~\nA\n+\nI\n", 1);
        good(0, "@" + NAME_40 + "\nA\n+\nI\n", 1);
        good(0, "@" + NAME_40 + "\nA\n+" + NAME_40 + "\nI\n", 1);
        good(1, ">" + NAME_40 + "\nA\n", 1);
        fault(0, "@\nA\n+\nI\n", 2, 1);
        fault(1, ">\nA\n", 2, 1);
        ReadBins x = new ReadBins();
        DUE.is("all signs", Due.read(x, 1, ">" + SIGNS.substring(0, 40) + "\nA\n>" + SIGNS.substring(40, 80) + "\nA\n>"
            + SIGNS.substring(80) + "\nA\n"), 3);
        DUE.is("the name of 0", Due.letters(x, 0, 0), SIGNS.substring(0, 40));
        DUE.is("the name of 1", Due.letters(x, 1, 0), SIGNS.substring(40, 80));
        DUE.is("the name of 2", Due.letters(x, 2, 0), SIGNS.substring(80));
    }

    private static void letters() {
        DUE.sentence("a LETTER that is none (a LINE END, where one has to be, too)");
        octetsBehind(0, "@a\n", LETTERS);
        octetsBehind(0, "@a\nA", LETTERS + "\n");
        octetsBehind(0, "@a\n" + LETTERS_120.substring(1), LETTERS + "\n");
        octetsBehind(1, ">a\n", LETTERS);
        octetsBehind(1, ">a\nA", LETTERS + "\n");
        octetsBehind(1, ">a\nA\nC", LETTERS + "\n");
        octetsBehind(1, ">a\nA\n>b\n", LETTERS);
        DUE.sentence("1 .. 120 LETTERS (A C G T N)");
        for (int count : new int[] {1, 2, 119, 120}) {
            String letters = LETTERS_120.substring(0, count);
            good(0, "@a\n" + letters + "\n+\n" + "I".repeat(count) + "\n", 1);
            good(1, ">a\n" + letters + "\n", 1);
            ReadBins x = new ReadBins();
            Due.read(x, 1, ">a\n" + letters + "\n");
            DUE.is("letters", Due.letters(x, 0, 1), letters);
        }
        fault(0, "@a\n\n+\n\n", 2, 3);
        fault(1, ">a\n\n", 2, 3);
    }

    private static void behindPlus() {
        DUE.sentence("behind + one that is not the NAME's");
        octetsBehind(0, "@ab\nA\n+", "\na");
        octetsBehind(0, "@ab\nA\n+a", "b");
        octetsBehind(0, "@ab\nA\n+ab", "\n");
        octetsBehind(0, "@" + NAME_40 + "\nA\n+" + NAME_40, "\n");
        octetsBehind(0, "@" + NAME_40 + "\nA\n+" + NAME_40.substring(1), "n");
        DUE.sentence("+ and perhaps the same NAME");
        good(0, "@ab\nA\n+\nI\n", 1);
        good(0, "@ab\nA\n+ab\nI\n", 1);
        good(0, "@ab\nA\n+ab\nI\n@cd\nA\n+cd\nI\n", 2);
        fault(0, "@ab\nA\n+ab\nI\n@cd\nA\n+ab\nI\n", 2, 19);
        fault(0, "@ab\nA\n+a\nI\n", 2, 8);
        fault(0, "@ab\nA\n+b\nI\n", 2, 7);
        fault(0, "@ab\nA\n+aba\nI\n", 2, 9);
        fault(0, "@ab\nA\n+AB\nI\n", 2, 7);
    }

    private static void qualities() {
        DUE.sentence("a QUALITY that is not 33 .. 126");
        octetsBehind(0, "@a\nAC\n+\n", SIGNS);
        octetsBehind(0, "@a\nAC\n+a\nI", SIGNS);
        octetsBehind(0, "@a\nAC\n+\nII", "\n");
        octetsBehind(0, "@a\n" + LETTERS_120 + "\n+\n" + "I".repeat(119), SIGNS);
        octetsBehind(0, "@a\n" + LETTERS_120 + "\n+\n" + "I".repeat(120), "\n");
        DUE.sentence("for each LETTER the octet 33 + its QUALITY");
        ReadBins x = new ReadBins();
        Due.read(x, 0, "@a\n" + LETTERS_120.substring(0, 94) + "\n+\n" + SIGNS + "\n");
        for (int k = 0; k < 94; k++) {
            DUE.is("quality " + k, x.letter(0, 2, k), k);
        }
        DUE.sentence("all QUALITIES are 40");
        Due.read(x, 1, ">a\nACGTN\n>b\n" + LETTERS_120 + "\n");
        for (int k = 0; k < 5; k++) {
            DUE.is("quality " + k, x.letter(0, 2, k), 40);
        }
        DUE.is("the last quality", x.letter(1, 2, 119), 40);
        DUE.sentence("and as many QUALITIES (0 .. 93)");
        fault(0, "@a\nACG\n+\nII\n", 2, 11);
        fault(0, "@a\nACG\n+\nIIII\n", 2, 12);
        fault(0, "@a\nACG\n+\n\n", 2, 9);
        good(0, "@a\nACG\n+\n@+>\n", 1);
    }

    private static void linesOfLetters() {
        DUE.sentence("then one or more lines of LETTERS, none without any");
        good(1, ">a\nA\n", 1);
        good(1, ">a\n" + "A\n".repeat(120), 1);
        good(1, ">a\n" + "A".repeat(60) + "\n" + "A".repeat(60) + "\n", 1);
        good(1, ">a\nA\n" + "A".repeat(119) + "\n", 1);
        good(1, ">a\n" + "A".repeat(119) + "\nA\n", 1);
        good(1, ">a\n" + "A".repeat(120) + "\n>b\n" + "A".repeat(120) + "\n", 2);
        fault(1, ">a\n>b\nA\n", 2, 3);
        fault(1, ">a\n\nA\n", 2, 3);
        fault(1, ">a\nA\n\nA\n", 2, 5);
        fault(1, ">a\nA\n\n", 2, 5);
        fault(1, ">a\nA\n>b\n>c\nA\n", 2, 8);
        ReadBins x = new ReadBins();
        Due.read(x, 1, ">a\nAC\nG\nTNN\n>b\nT\nG\n");
        DUE.is("the letters of all its lines", Due.letters(x, 0, 1) + " " + Due.letters(x, 1, 1), "ACGTNN TG");
        DUE.sentence("of each READ four lines");
        fault(0, "@a\nA\nC\n+\nII\n", 2, 5);
        fault(0, "@a\nA\nI\n", 2, 5);
        fault(0, "@a\nAC\n+\nI\nI\n", 2, 9);
        fault(0, "@a\nA\n+\nI\n\n", 2, 9);
    }

    private static void lineEnds() {
        DUE.sentence("Each line ends with a LINE END.");
        fault(0, "@a\nA\n+\nI", 1, 8);
        fault(1, ">a\nA", 1, 4);
        fault(1, ">a\nA\n>b\nA", 1, 9);
        DUE.sentence("A LINE END is 10.");
        for (String other : new String[] {"\r", "\t", "\u000b", "\f", "\0", "\r\n", "\u0085"}) {
            fault(0, "@a" + other + "A\n+\nI\n", 2, 2);
            fault(0, "@a\nA" + other + "+\nI\n", 2, 4);
            fault(0, "@a\nA\n+" + other + "I\n", 2, 6);
            fault(0, "@a\nA\n+\nI" + other, 2, 8);
            fault(1, ">a" + other + "A\n", 2, 2);
            fault(1, ">a\nA" + other, 2, 4);
        }
        DUE.sentence("a LINE END too early, and what stands where a LINE END has to be");
        fault(0, "\n", 2, 0);
        fault(0, "@\n", 2, 1);
        fault(0, "@a\n\n", 2, 3);
        fault(0, "@a\nA\n\n", 2, 5);
        fault(0, "@ab\nA\n+a\n", 2, 8);
        fault(0, "@a\nA\n+\n\n", 2, 7);
        fault(0, "@a\nAC\n+\nI\n", 2, 9);
        fault(0, "@a\nA\n+aI\n", 2, 7);
        fault(0, "@a\nA\n+\nII\n", 2, 8);
        fault(0, "@a\nA\n+\nI@", 2, 8);
    }

    private static void tooLong() {
        DUE.sentence("3 the 41st octet of a NAME, the 121st LETTER.");
        String name = "@" + NAME_40;
        octetsBehind(0, name, "\n", 3, SIGNS);
        octetsBehind(1, ">" + NAME_40, "\n", 3, SIGNS);
        fault(0, name + "n\nA\n+\nI\n", 3, 41);
        fault(1, ">a\nA\n>" + NAME_40 + "n\nA\n", 3, 46);
        octetsBehind(0, "@a\n" + LETTERS_120, "\n", 3, LETTERS);
        octetsBehind(1, ">a\n" + LETTERS_120, "\n", 3, LETTERS);
        octetsBehind(1, ">a\n" + LETTERS_120 + "\n", ">", 3, LETTERS);
        octetsBehind(1, ">a\n" + LETTERS_120.replaceAll("(.{1,7})", "$1\n"), ">", 3, LETTERS);
        fault(0, "@a\n" + LETTERS_120 + "A\n+\n" + "I".repeat(121) + "\n", 3, 123);
        fault(1, ">a\n" + "A\n".repeat(121), 3, 243);
    }

    private static void tooManyReads() {
        String whole = "@a\nA\n+\nI\n".repeat(60);
        String letters = ">a\nC\n".repeat(60);
        DUE.sentence("There are at most 60 READS");
        good(0, whole, 60);
        good(1, letters, 60);
        good(0, whole.substring(9), 59);
        DUE.sentence("4 the first octet of the 61st READ.");
        fault(0, whole + "@", 4, 540);
        fault(0, whole + "@a\nA\n+\nI\n", 4, 540);
        fault(1, letters + ">", 4, 300);
        fault(1, letters + ">a\nC\n", 4, 300);
        octetsBehind(0, whole, "", 4, "@");
        octetsBehind(1, letters, LETTERS, 4, ">");
    }

    private static void firstFault() {
        DUE.sentence("FAULTS, octet after octet, the first one");
        fault(0, "@a\nX\n+\n \n", 2, 3);
        DUE.sentence("(The place is that octet's.)");
        fault(0, "@ \nX", 2, 1);
        fault(0, "@" + NAME_40 + "n\nX", 3, 41);
        fault(0, "@a\nX\n@" + NAME_40 + "n", 2, 3);
        fault(1, ">a\n" + LETTERS_120 + "AX", 3, 123);
        fault(1, ">a\n" + LETTERS_120.substring(1) + "XA", 2, 122);
        fault(0, "@a\nA\n+\nI\n".repeat(59) + "@a\nA\n+\n \n@", 2, 538);
    }

    private static void everyEnd() {
        DUE.sentence("1 the tape ends before a line does, or before a READ is whole (its size).");
        everyEnd(0, "@ab\nACG\n+ab\nIII\n@c\nT\n+\n#\n@d\nTG\n+d\n#I\n", "16 25");
        everyEnd(1, ">ab\nAC\nG\n>c\nT\n>d\nT\nG\n", "7 9 14 19");
    }

    private static void everyEnd(int form, String text, String wholeAt) {
        for (int end = 0; end < text.length(); end++) {
            boolean isWhole = (" " + wholeAt + " ").contains(" " + end + " ");
            String part = text.substring(0, end);
            if (isWhole) {
                good(form, part, part.split(form == 0 ? "@" : ">").length - 1);
            } else {
                fault(form, part, 1, end);
            }
        }
    }

    private static void whatStays() {
        DUE.sentence("a FAULT below 0: those that are there stay");
        String[] faulty = {"@a", "A", "@" + NAME_40 + "n", "@a\nA\n+\nI\n".repeat(60) + "@"};
        for (int number = 1; number <= 4; number++) {
            ReadBins x = new ReadBins();
            Due.barcode(x, "A");
            DUE.is("two reads", Due.read(x, 0, "@one\nACGT\n+\n!5I~\n@two\nATNTA\n+two\n#####\n"), 2);
            x.sort(1, 0);
            String before = state(x);
            DUE.is("fault " + number, Due.read(x, 0, faulty[number - 1]), -number);
            DUE.is("behind fault " + number, state(x), before);
        }
        DUE.sentence("its READS take the place of those that are there (nothing is SORTED then)");
        ReadBins x = new ReadBins();
        Due.read(x, 1, ">a\nACG\n>b\nT\n");
        x.sort(0, 0);
        DUE.is("one read", Due.read(x, 0, "@c\nGG\n+\n#~\n"), 1);
        DUE.is("reads", x.told(3), 1);
        DUE.is("it", Due.letters(x, 0, 0) + " " + Due.letters(x, 0, 1) + " " + Due.letters(x, 0, 2), "c GG #~");
        DUE.is("not sorted", Due.sorted(x, 0), "-1 -1 -1 -1 -1");
        DUE.refused("the other is gone", Due.INDEX, () -> x.about(1, 0));
        DUE.refused("nothing is sorted", Due.STATE, () -> x.bin(-1, 0));
        lessThanBefore();
    }

    // Long texts with many reads, then ones with few: nothing of what was there before can be asked for.
    private static void lessThanBefore() {
        String letters = "ACGTN".repeat(10);
        for (int round = 1; round <= 4; round++) {
            ReadBins x = new ReadBins();
            for (int n = 0; n < round; n++) {
                DUE.is("many", Due.read(x, 1, (">name\n" + letters.substring(40) + "\n").repeat(10)), 10);
            }
            for (int n = 0; n < round; n++) {
                DUE.is("one", Due.read(x, 1, ">n\n" + letters + "\n"), 1);
                for (int i : new int[] {1, 2, 9, 10}) {
                    DUE.refused("about read " + i, Due.INDEX, () -> x.about(i, 0));
                    for (int which = 0; which < 3; which++) {
                        noLetter(x, i, which, 0);
                    }
                }
                noLetter(x, 0, 0, 1);
                DUE.is("its last letter", x.letter(0, 1, 49), 'N');
                noLetter(x, 0, 1, 50);
                noLetter(x, 0, 2, 50);
            }
        }
    }

    private static String state(ReadBins x) {
        StringBuilder text = new StringBuilder("" + x.told(3));
        for (int i = 0; i < x.told(3); i++) {
            for (int which = 0; which < 3; which++) {
                text.append(" ").append(Due.letters(x, i, which));
            }
            text.append(" ").append(Due.sorted(x, i));
        }
        return text + " " + x.bin(-1, 0) + x.bin(0, 0) + x.bin(0, 1) + x.bin(0, 2) + x.group(0, 0, 0);
    }

    private static void placeOfTheLast() {
        DUE.sentence("The place of the last FAULT of read(); NONE before one.");
        ReadBins x = new ReadBins();
        DUE.is("before", x.place(), -1);
        DUE.is("barcode", Due.barcode(x, "X"), -1);
        DUE.is("adapter", Due.adapter(x, "X"), -1);
        DUE.is("these are no faults of read", x.place(), -1);
        DUE.is("a text", Due.read(x, 1, ">a\nA\n"), 1);
        DUE.is("before a fault", x.place(), -1);
        DUE.is("a fault", Due.read(x, 1, ">a\nX"), -2);
        DUE.is("its place", x.place(), 3);
        DUE.is("a text", Due.read(x, 1, ">a\nA\n"), 1);
        DUE.is("the last fault's", x.place(), 3);
        DUE.refused("no form", Due.ARGUMENT, () -> x.read(2));
        DUE.is("the last fault's", x.place(), 3);
        DUE.is("a fault of an empty tape", x.read(0), -1);
        DUE.is("its place", x.place(), 0);
    }

    private static void indexes() {
        DUE.sentence("octet k of its NAME (which = 0), its LETTER k (1; an octet), its QUALITY k (2)");
        ReadBins x = new ReadBins();
        DUE.is("read", Due.read(x, 0, "@abcd\nACG\n+\n!I~\n@e\nNTGCA\n+\n#$%&'\n"), 2);
        DUE.is("read 0", Due.letters(x, 0, 0) + " " + Due.letters(x, 0, 1) + " " + Due.letters(x, 0, 2), "abcd ACG !I~");
        DUE.is("read 1", Due.letters(x, 1, 0) + " " + Due.letters(x, 1, 1) + " " + Due.letters(x, 1, 2), "e NTGCA #$%&'");
        DUE.sentence("IndexOutOfBoundsException: there is none such.");
        int[][] sizes = {{4, 3, 3}, {1, 5, 5}};
        int[] far = {Integer.MIN_VALUE, -2, -1, 60, 120, 6000, Integer.MAX_VALUE};
        for (int i = 0; i < 2; i++) {
            for (int which = 0; which < 3; which++) {
                noLetter(x, i, which, sizes[i][which]);
                for (int k : far) {
                    noLetter(x, i, which, k);
                }
            }
        }
        for (int wrong : new int[] {Integer.MIN_VALUE, -1, 2, 59, 60, Integer.MAX_VALUE}) {
            noLetter(x, wrong, 1, 0);
            noLetter(x, 0, wrong == 2 ? 3 : wrong, 0);
        }
        DUE.is("the last one's last", x.letter(1, 2, 4), 6);
    }

    private static void noLetter(ReadBins x, int i, int which, int k) {
        DUE.refused("letter(" + i + ", " + which + ", " + k + ")", Due.INDEX, () -> x.letter(i, which, k));
    }
}
