/**
 * "a call that throws, or answers NONE, changes nothing (but THE TAPE, where it is read)": of two objects that were made
 * alike one has a call refused, and then all that can be asked is asked of both.
 */
public final class RefusedTest {
    private static final Due DUE = new Due();
    private static final int NEW = 0;
    private static final int READ = 1;
    private static final int SORTED = 2;
    private static final int FULL = 3;
    private static final String TAPE = "@z\nGCA\n+\n5I#\n";
    private static final String ARGUMENT = "IllegalArgumentException";
    private static final String INDEX = "IndexOutOfBoundsException";
    private static final String STATE = "IllegalStateException";

    interface Calls {
        long on(ReadBins x);
    }

    public static void main(String[] args) {
        DUE.sentence("a call that throws, or answers NONE, changes nothing (but THE TAPE, where it is read)");
        for (int stage = NEW; stage <= FULL; stage++) {
            refusedFeeds(stage);
            refusedReads(stage);
            refusedSettings(stage);
            refusedSorts(stage);
            refusedQuestions(stage);
            refusedTexts(stage);
            tapesReadInVain(stage);
            faults(stage);
        }
        notSorted(NEW);
        notSorted(READ);
        binsThatCameLater();
        questions();
        DUE.sentence("Methods throw what their comments name, the one named first when several would do");
        firstNamed();
        DUE.end();
    }

    private static ReadBins made(int stage) {
        ReadBins x = new ReadBins();
        if (stage == NEW) {
            return x;
        }
        for (String barcode : stage == FULL ? "AAA CCC GGG TTT ACC CAA GAA TAA AGG CGG GCC TCC ATT CTT GTT TGG".split(" ")
            : new String[] {"AAA", "CCC"}) {
            Due.barcode(x, barcode);
        }
        Due.adapter(x, "GTGT");
        x.limits(12, 13, 2);
        Due.read(x, 0, "@a\nX");
        Due.read(x, 0, "@a\nAAATGGG\n+\n!!!!I5,\n@b\nCCCGTN\n+\n555555\n@c\nAAATT\n+\nIIIII\n@dd\nGAT\n+\n,,I\n");
        x.write(1, -2, false);
        if (stage != READ) {
            x.sort(1, 1);
        }
        if (stage == SORTED) {
            Due.barcode(x, "GGG");
        }
        return x;
    }

    private static ReadBins withTape(int stage) {
        ReadBins x = made(stage);
        Due.feed(x, TAPE);
        return x;
    }

    /** All that can be asked; what the tape, the adapter, the limits and the barcodes are shows in what is read and sorted. */
    private static String state(ReadBins x, boolean withPlace) {
        StringBuilder text = new StringBuilder(withPlace ? "place " + x.place() : "");
        for (int what = 0; what < 4; what++) {
            text.append(" ").append(x.told(what));
        }
        text.append(reads(x)).append(bins(x)).append("; written: ");
        boolean more = true;
        for (int k = 0; more && k < 200; k++) {
            int at = k;
            String octet = Due.answerOf(() -> x.out(at));
            more = !octet.equals(INDEX);
            text.append(octet).append(" ");
        }
        text.append("; the tape: ").append(x.read(0)).append(" ").append(x.place()).append(reads(x));
        Due.read(x, 0, "@p\nAAATCCGTGT\n+\nIII,I,IIII\n@q\nCCCCGA\n+\nI,--.-\n@r\nGGGAC\n+\nIIIII\n@s\nTTTTTA\n+\n.-,,,.\n");
        text.append("; sorted anew: ").append(x.sort(0, 0)).append(reads(x));
        return text + "; again: " + x.again() + " " + x.read(1);
    }

    private static String reads(ReadBins x) {
        StringBuilder text = new StringBuilder();
        for (int i = 0; i < x.told(3); i++) {
            text.append("; ").append(Due.sorted(x, i));
            for (int which = 0; which < 3; which++) {
                text.append(" ").append(Due.letters(x, i, which));
            }
        }
        return text.toString();
    }

    private static String bins(ReadBins x) {
        StringBuilder text = new StringBuilder();
        for (int n = -1; n < 4; n++) {
            int bin = n;
            text.append("; bin ").append(n);
            for (int w = 0; w < 3; w++) {
                int what = w;
                text.append(" ").append(Due.answerOf(() -> x.bin(bin, what)));
                text.append(" ").append(Due.answerOf(() -> x.group(bin, 0, what)));
            }
        }
        return text.toString();
    }

    private static void refused(int stage, String what, String due, Calls call) {
        ReadBins x = withTape(stage);
        DUE.is(what + ", stage " + stage, Due.answerOf(() -> call.on(x)), due);
        DUE.is("behind " + what + ", stage " + stage, state(x, true), state(withTape(stage), true));
    }

    private static void refusedFeeds(int stage) {
        for (int n : new int[] {Integer.MIN_VALUE, -1, 0, 9, Integer.MAX_VALUE}) {
            refused(stage, "feed " + n, ARGUMENT, x -> x.feed(n, 0x4141414141414141L));
        }
    }

    private static void refusedReads(int stage) {
        for (int form : new int[] {-1, 2}) {
            refused(stage, "read " + form, ARGUMENT, x -> x.read(form));
        }
    }

    private static void refusedSettings(int stage) {
        int[][] wrong = {{-1, 30, 5}, {94, 30, 5}, {30, -1, 5}, {30, 94, 5}, {30, 31, -1}, {30, 31, 121}};
        for (int[] three : wrong) {
            refused(stage, "limits " + three[0] + " " + three[1] + " " + three[2], "0",
                x -> x.limits(three[0], three[1], three[2]) ? 1 : 0);
        }
    }

    private static void refusedSorts(int stage) {
        int[][] wrong = {{-1, 0}, {13, 0}, {0, -1}, {0, 2}, {12, 2}, {13, 1}};
        for (int[] pair : wrong) {
            refused(stage, "sort " + pair[0] + " " + pair[1], ARGUMENT, x -> x.sort(pair[0], pair[1]));
        }
    }

    private static void refusedQuestions(int stage) {
        for (int wrong : new int[] {-1, 7, 60}) {
            refused(stage, "told " + wrong, INDEX, x -> x.told(wrong));
            refused(stage, "about 0, " + wrong, INDEX, x -> x.about(0, wrong));
            refused(stage, "letter of " + wrong, INDEX, x -> x.letter(wrong, 0, 0));
            refused(stage, "letter 0, " + wrong, INDEX, x -> x.letter(0, wrong, 0));
            refused(stage, "letter 0, 1, " + wrong, INDEX, x -> x.letter(0, 1, wrong));
            refused(stage, "bin -1, " + wrong, INDEX, x -> x.bin(-1, wrong));
            refused(stage, "group -1, 0, " + wrong, INDEX, x -> x.group(-1, 0, wrong));
        }
        for (int wrong : new int[] {-1, 4, 60}) {
            refused(stage, "about " + wrong, INDEX, x -> x.about(wrong, 1));
        }
        for (int wrong : new int[] {-2, 16, 17}) {
            refused(stage, "bin " + wrong, INDEX, x -> x.bin(wrong, 0));
            refused(stage, "group " + wrong, INDEX, x -> x.group(wrong, 0, 0));
        }
    }

    private static void refusedTexts(int stage) {
        refused(stage, "write 2, -2", ARGUMENT, x -> x.write(2, -2, false));
        refused(stage, "write -1, -1", ARGUMENT, x -> x.write(-1, -1, true));
        refused(stage, "write 0, -3", INDEX, x -> x.write(0, -3, false));
        refused(stage, "write 1, 16", INDEX, x -> x.write(1, 16, true));
        for (int wrong : new int[] {-1, 60, 12000}) {
            refused(stage, "out " + wrong, INDEX, x -> x.out(wrong));
        }
    }

    private static void notSorted(int stage) {
        refused(stage, "bin -1", STATE, x -> x.bin(-1, 0));
        refused(stage, "group of bin -1", STATE, x -> x.group(-1, 0, 0));
        refused(stage, "write bin -1", STATE, x -> x.write(0, -1, false));
        if (stage == READ) {
            refused(stage, "bin 1", STATE, x -> x.bin(1, 0));
            refused(stage, "group of bin 1", STATE, x -> x.group(1, 0, 0));
            refused(stage, "write bin 1", STATE, x -> x.write(0, 1, true));
            for (int what = 2; what <= 6; what++) {
                int w = what;
                refused(stage, "about 0, " + what, "-1", x -> x.about(0, w));
            }
        }
    }

    private static void binsThatCameLater() {
        refused(SORTED, "bin 2", INDEX, x -> x.bin(2, 0));
        refused(SORTED, "group of bin 2", INDEX, x -> x.group(2, 0, 0));
        refused(SORTED, "write bin 2", INDEX, x -> x.write(0, 2, false));
        refused(SORTED, "group 60", INDEX, x -> x.group(0, 60, 0));
        refused(SORTED, "group -1", INDEX, x -> x.group(0, -1, 0));
        refused(SORTED, "group of bin -1", INDEX, x -> x.group(-1, 0, 0));
    }

    /** A call that reads the tape and answers what is below 0: the tape is empty then, and all else is as before. */
    private static void inVain(int stage, String tape, String due, boolean withPlace, Calls call) {
        ReadBins x = made(stage);
        Due.feed(x, tape);
        String what = tape.length() < 40 ? tape.replace('\n', '|') : tape.length() + " octets";
        DUE.is(what + ", stage " + stage, Due.answerOf(() -> call.on(x)), due);
        DUE.is("behind " + what + ", stage " + stage, state(x, withPlace), state(made(stage), withPlace));
    }

    private static void tapesReadInVain(int stage) {
        for (String none : new String[] {"", "N", "AAN", "aaa", "AAAAAAAAAAAAA", "ACG\n", "AC ", "\n"}) {
            inVain(stage, none, "-1", true, x -> x.barcode());
        }
        for (String none : new String[] {"A", "AC", "ACN", "A".repeat(31), "ACG\n", "gtgt"}) {
            inVain(stage, none, "-1", true, x -> x.adapter());
        }
        if (stage != NEW) {
            for (String none : new String[] {"AA", "ACGT", "AAA", "CCC"}) {
                inVain(stage, none, "-1", true, x -> x.barcode());
            }
        }
        if (stage == SORTED) {
            inVain(stage, "GGG", "-1", true, x -> x.barcode());
        }
        if (stage == FULL) {
            inVain(stage, "ACG", "-1", true, x -> x.barcode());
        }
    }

    private static void faults(int stage) {
        String[] first = {"@y\nACGT\n+\nII", ">y\nAC"};
        String[] second = {"@y\nACGT\n+\nIII \n", ">y\nACX\n"};
        String[] third = {"@" + "y".repeat(41) + "\nA\n+\nI\n", ">y\n" + "A".repeat(121) + "\n"};
        String[] fourth = {"@y\nA\n+\nI\n".repeat(60) + "@", ">y\nA\n".repeat(61)};
        for (int form = 0; form < 2; form++) {
            int f = form;
            inVain(stage, "", "-1", false, x -> x.read(f));
            inVain(stage, first[form], "-1", false, x -> x.read(f));
            inVain(stage, second[form], "-2", false, x -> x.read(f));
            inVain(stage, third[form], "-3", false, x -> x.read(f));
            inVain(stage, fourth[form], "-4", false, x -> x.read(f));
        }
    }

    private static void questions() {
        DUE.sentence("Nothing is promised beyond the answers and state changes described above");
        for (int stage = READ; stage <= FULL; stage++) {
            refused(stage, "questions", "0", x -> {
                reads(x);
                bins(x);
                x.place();
                x.out(0);
                return 0;
            });
        }
    }

    private static void firstNamed() {
        ReadBins x = new ReadBins();
        DUE.is("no bin, nothing sorted", Due.answerOf(() -> x.bin(0, 0)), INDEX);
        DUE.is("another what, nothing sorted", Due.answerOf(() -> x.bin(-1, 3)), INDEX);
        DUE.is("no bin, nothing sorted", Due.answerOf(() -> x.group(0, 0, 0)), INDEX);
        DUE.is("another what, nothing sorted", Due.answerOf(() -> x.group(-1, 0, 3)), INDEX);
        DUE.is("no group, but nothing sorted", Due.answerOf(() -> x.group(-1, 0, 0)), STATE);
        DUE.is("no form, no bin, nothing sorted", Due.answerOf(() -> x.write(2, 0, false)), ARGUMENT);
        DUE.is("no form, nothing sorted", Due.answerOf(() -> x.write(2, -1, false)), ARGUMENT);
        DUE.is("no bin, nothing sorted", Due.answerOf(() -> x.write(0, 0, false)), INDEX);
        x.sort(0, 0);
        DUE.is("no form, no bin", Due.answerOf(() -> x.write(2, 0, false)), ARGUMENT);
        DUE.is("no bin", Due.answerOf(() -> x.write(1, 0, false)), INDEX);
    }
}
