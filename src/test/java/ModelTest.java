import java.util.Random;

/**
 * Runs of as many calls as an object is promised for, made from fixed numbers, on the class and on the model: every
 * answer has to be the same.
 */
public final class ModelTest {
    private static final Due DUE = new Due();
    private static final int RUNS = 2000;
    private static final int CALLS = 512;

    interface Call {
        long answer();
    }

    private final Random random;
    private final int run;
    private final ReadBins x = new ReadBins();
    private final Model model = new Model();
    private final String[] barcodes = new String[4];
    private final int tagLetters;
    private int callsLeft = CALLS;

    private ModelTest(int run) {
        this.run = run;
        random = new Random(run);
        int size = 1 + random.nextInt(6);
        for (int b = 0; b < barcodes.length; b++) {
            barcodes[b] = letters("ACGT", size);
        }
        tagLetters = random.nextInt(4);
    }

    public static void main(String[] args) {
        for (int run = 0; run < RUNS; run++) {
            new ModelTest(run).calls();
        }
        DUE.end();
    }

    private void calls() {
        for (int n = random.nextInt(5); n > 0; n--) {
            feedText(barcodes[random.nextInt(barcodes.length)]);
            same("barcode", x::barcode, model::barcode);
        }
        while (callsLeft > 0) {
            oneCall();
            lookAround();
        }
    }

    private void oneCall() {
        switch (random.nextInt(12)) {
            case 0, 1, 2:
                int form = random.nextInt(20) == 0 ? edge(2) : random.nextInt(2);
                feedText(spoilt(text(form)));
                same("read", () -> x.read(form), () -> model.read(form));
                break;
            case 3:
                feedText(random.nextBoolean() ? barcodes[random.nextInt(4)] : letters("ACGTN", random.nextInt(14)));
                same("barcode", x::barcode, model::barcode);
                break;
            case 4:
                feedText(letters("ACGT", random.nextBoolean() ? 3 : random.nextInt(33)));
                same("adapter", x::adapter, model::adapter);
                break;
            case 5:
                int begin = limit();
                int end = limit();
                int least = random.nextInt(10) == 0 ? edge(121) : random.nextInt(8);
                same("limits", () -> x.limits(begin, end, least) ? 1 : 0, () -> model.limits(begin, end, least) ? 1 : 0);
                break;
            case 6, 7, 8:
                int u = random.nextInt(6) == 0 ? edge(13) : tagLetters;
                int way = random.nextInt(10) == 0 ? edge(2) : random.nextInt(2);
                same("sort " + u + " " + way, () -> x.sort(u, way), () -> model.sort(u, way));
                break;
            case 9:
                same("again", x::again, model::again);
                break;
            default:
                writeAndLook();
        }
    }

    private int limit() {
        return random.nextInt(3) == 0 ? 0 : random.nextInt(12) == 0 ? edge(94) : 10 + random.nextInt(30);
    }

    /** A number from -1 up to the bound, the ends more often than the others. */
    private int edge(int bound) {
        int[] ends = {-1, 0, bound - 1, bound};
        return random.nextBoolean() ? ends[random.nextInt(4)] : random.nextInt(bound);
    }

    private String letters(String of, int size) {
        StringBuilder text = new StringBuilder();
        for (int k = 0; k < size; k++) {
            text.append(of.charAt(random.nextInt(of.length())));
        }
        return text.toString();
    }

    private String text(int form) {
        StringBuilder text = new StringBuilder();
        int count = random.nextInt(12) == 0 ? 58 + random.nextInt(5) : 1 + random.nextInt(14);
        for (int i = 0; i < count; i++) {
            text.append(form == 1 ? '>' : '@');
            String name = letters("abc:/1@>+", random.nextInt(60) == 0 ? 39 + random.nextInt(3) : 1 + random.nextInt(4));
            text.append(name).append('\n');
            String letters = readLetters(count > 30);
            if (form == 1) {
                text.append(letters.replaceAll("(.{1," + (1 + random.nextInt(40)) + "})", "$1\n"));
            } else {
                text.append(letters).append("\n+").append(random.nextBoolean() ? name : "").append('\n');
                text.append(letters("!#)05:?I~", letters.length())).append('\n');
            }
        }
        return text.toString();
    }

    private String readLetters(boolean small) {
        String head = barcodes[random.nextInt(barcodes.length)] + letters("AC", tagLetters);
        int rest = small ? random.nextInt(8) : random.nextInt(80) == 0 ? 100 + random.nextInt(20) : random.nextInt(30);
        String letters = head + letters(random.nextBoolean() ? "ACGTN" : "ACNN", rest);
        if (random.nextInt(3) == 0) {
            int at = random.nextInt(letters.length());
            letters = letters.substring(0, at) + letters("ACGTN", 1) + letters.substring(at + 1);
        }
        return letters;
    }

    private String spoilt(String text) {
        if (random.nextInt(3) != 0) {
            return text;
        }
        int at = random.nextInt(text.length());
        String octet = letters("\n\n@+>A ~\u007f\u00ff", 1);
        switch (random.nextInt(4)) {
            case 0:
                return text.substring(0, at);
            case 1:
                return text.substring(0, at) + text.substring(at + 1);
            case 2:
                return text.substring(0, at) + octet + text.substring(at);
            default:
                return text.substring(0, at) + octet + text.substring(at + 1);
        }
    }

    private void feedText(String text) {
        for (int at = 0; at < text.length(); at += 8) {
            int n = Math.min(8, text.length() - at);
            long octets = random.nextLong();
            for (int k = n - 1; k >= 0; k--) {
                octets = octets << 8 | text.charAt(at + k);
            }
            long fed = octets;
            same("feed", () -> x.feed(n, fed), () -> model.feed(n, fed));
        }
    }

    private void writeAndLook() {
        int form = random.nextInt(20) == 0 ? edge(2) : random.nextInt(2);
        int bin = random.nextInt(5) == 0 ? -3 + random.nextInt(20) : -2 + random.nextInt(4);
        boolean best = random.nextBoolean();
        same("write " + form + " " + bin + " " + best, () -> x.write(form, bin, best), () -> model.write(form, bin, best));
    }

    private void lookAround() {
        same("place", x::place, model::place);
        int what = edge(4);
        same("told " + what, () -> x.told(what), () -> model.told(what));
        for (int n = random.nextInt(12); n > 0; n--) {
            lookAtRead(random.nextInt(10) == 0 ? edge(61) : random.nextInt(14));
            lookAtBin(random.nextInt(5) == 0 ? edge(16) - 1 : random.nextInt(3) - 1);
            int k = random.nextInt(random.nextBoolean() ? 40 : 1000) - 1;
            same("out " + k, () -> x.out(k), () -> model.out(k));
        }
    }

    private void lookAtRead(int i) {
        int what = edge(7);
        same("about " + i + " " + what, () -> x.about(i, what), () -> model.about(i, what));
        int which = random.nextInt(10) == 0 ? edge(3) : random.nextInt(3);
        int k = random.nextInt(random.nextInt(3) == 0 ? 130 : 12) - 1;
        same("letter " + i + " " + which + " " + k, () -> x.letter(i, which, k), () -> model.letter(i, which, k));
    }

    private void lookAtBin(int bin) {
        int what = random.nextInt(8) == 0 ? edge(3) : random.nextInt(3);
        same("bin " + bin + " " + what, () -> x.bin(bin, what), () -> model.bin(bin, what));
        int g = random.nextInt(4) == 0 ? edge(8) : random.nextInt(3);
        String call = "group " + bin + " " + g + " " + what;
        same(call, () -> x.group(bin, g, what), () -> model.group(bin, g, what));
    }

    private void same(String call, Call ours, Call due) {
        if (callsLeft > 0) {
            callsLeft--;
            DUE.is("run " + run + ": " + call, answer(ours), answer(due));
        }
    }

    private static String answer(Call call) {
        try {
            return "" + call.answer();
        } catch (IllegalArgumentException | IndexOutOfBoundsException | IllegalStateException e) {
            return e.getClass().getSimpleName();
        }
    }
}
