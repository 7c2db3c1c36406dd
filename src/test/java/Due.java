import java.nio.charset.StandardCharsets;

/** Compares answers with those that are due, prints the wrong ones and ends with exit code 1 if there was one. */
final class Due {
    interface Call {
        long answer();
    }

    static final Class<? extends RuntimeException> ARGUMENT = IllegalArgumentException.class;
    static final Class<? extends RuntimeException> INDEX = IndexOutOfBoundsException.class;
    static final Class<? extends RuntimeException> STATE = IllegalStateException.class;

    private int checked;
    private int wrong;
    private String sentence = "";

    /** The words of the document that the answers from here on are due by. */
    void sentence(String words) {
        sentence = "\"" + words + "\" - ";
    }

    void is(String what, long got, long want) {
        is(what, "" + got, "" + want);
    }

    void is(String what, boolean got, boolean want) {
        is(what, got ? 1 : 0, want ? 1 : 0);
    }

    void is(String what, String got, String want) {
        checked++;
        if (!got.equals(want)) {
            wrong++;
            System.out.println(sentence + what + " answered " + got + ", due is " + want);
        }
    }

    /** The very class has to be thrown: one that the machine throws is of a class below. */
    void refused(String what, Class<? extends RuntimeException> kind, Call call) {
        is(what, answerOf(call), kind.getSimpleName());
    }

    /** What a call answers, or the name of the class that it throws. */
    static String answerOf(Call call) {
        try {
            return "" + call.answer();
        } catch (RuntimeException e) {
            return e.getClass().getSimpleName();
        }
    }

    void end() {
        System.out.println(checked + " answers looked at, " + wrong + " wrong");
        if (wrong != 0 || checked == 0) {
            System.exit(1);
        }
    }

    /** Feeds a text (characters 0 .. 255) and answers the size of the tape. */
    static int feed(ReadBins x, String text) {
        byte[] octets = text.getBytes(StandardCharsets.ISO_8859_1);
        int size = 0;
        for (int at = 0; at < octets.length; at += 8) {
            int n = Math.min(8, octets.length - at);
            long value = 0;
            for (int k = n - 1; k >= 0; k--) {
                value = value << 8 | octets[at + k] & 255;
            }
            size = x.feed(n, value);
        }
        return size;
    }

    /**
     * Brings the tape to a size, as a text of form 0. No object has calls enough to be fed so much: a text of
     * form 1 is fed, and what form 0 makes of it is nearly twice as long.
     */
    static int fill(ReadBins x, int size) {
        read(x, 1, lettersFor(size));
        x.write(0, -2, false);
        return x.again();
    }

    /** A text of form 1 whose reads have so many octets (9 or more) in form 0. */
    static String lettersFor(int size) {
        String longRead = ">n\n" + "ACGT".repeat(30) + "\n";
        int rest = (size - 9) % 247 + 9;
        int letters = Math.min(120, (rest - 7) / 2);
        String name = "m".repeat(rest - 6 - 2 * letters);
        return longRead.repeat((size - 9) / 247) + ">" + name + "\n" + "C".repeat(letters) + "\n";
    }

    static int read(ReadBins x, int form, String text) {
        feed(x, text);
        return x.read(form);
    }

    static int barcode(ReadBins x, String letters) {
        feed(x, letters);
        return x.barcode();
    }

    static int adapter(ReadBins x, String letters) {
        feed(x, letters);
        return x.adapter();
    }

    static String written(ReadBins x, int size) {
        StringBuilder text = new StringBuilder();
        for (int k = 0; k < size; k++) {
            text.append((char) x.out(k));
        }
        return text.toString();
    }

    /** The text of the reads as they stand, by letter() alone. */
    static String letters(ReadBins x, int i, int which) {
        StringBuilder text = new StringBuilder();
        int size = x.about(i, which == 0 ? 0 : 1);
        for (int k = 0; k < size; k++) {
            text.append((char) (x.letter(i, which, k) + (which == 2 ? 33 : 0)));
        }
        return text.toString();
    }

    /** Bin, begin, end, short and group of a read, with blanks between them. */
    static String sorted(ReadBins x, int i) {
        return x.about(i, 2) + " " + x.about(i, 3) + " " + x.about(i, 4) + " " + x.about(i, 5) + " " + x.about(i, 6);
    }
}
