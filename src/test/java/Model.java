import java.util.ArrayList;
import java.util.Comparator;
import java.util.LinkedHashMap;
import java.util.List;
import java.util.Map;

/** The document once more, by texts and lists of the library and without regard to room: ModelTest compares with it. */
final class Model {
    static final class Read {
        String name = "";
        String letters = "";
        List<Integer> qualities = new ArrayList<>();
        int bin = -1;
        int begin;
        int end;
        boolean isShort;
        String tag;
        int group = -1;

        int worth() {
            return qualities.subList(begin, end).stream().mapToInt(q -> q).sum();
        }
    }

    private static final class Fault extends RuntimeException {
        private static final long serialVersionUID = 1;
        final int number;
        final int at;

        Fault(int number, int at) {
            this.number = number;
            this.at = at;
        }
    }

    private String tape = "";
    private String written = "";
    private List<Read> reads = new ArrayList<>();
    private final List<String> barcodes = new ArrayList<>();
    private String adapter = "";
    private int atBegin;
    private int atEnd;
    private int least = 1;
    private int place = -1;
    private int sortedBins = -1;
    private int cursor;

    private static void index(boolean holds) {
        if (!holds) {
            throw new IndexOutOfBoundsException();
        }
    }

    private static void argument(boolean holds) {
        if (!holds) {
            throw new IllegalArgumentException();
        }
    }

    private static void state(boolean holds) {
        if (!holds) {
            throw new IllegalStateException();
        }
    }

    int feed(int n, long octets) {
        argument(n >= 1 && n <= 8 && tape.length() + n <= 6000);
        for (int k = 0; k < n; k++) {
            tape += (char) (octets >> 8 * k & 0xFF);
        }
        return tape.length();
    }

    private String useTape() {
        String text = tape;
        tape = "";
        return text;
    }

    int read(int form) {
        argument(form == 0 || form == 1);
        String text = useTape();
        cursor = 0;
        List<Read> found = new ArrayList<>();
        try {
            do {
                found.add(form == 0 ? readWithQualities(text, found.size()) : readLetters(text, found.size()));
            } while (cursor < text.length());
        } catch (Fault fault) {
            place = fault.at;
            return -fault.number;
        }
        reads = found;
        sortedBins = -1;
        return reads.size();
    }

    private char next(String text) {
        if (cursor == text.length()) {
            throw new Fault(1, cursor);
        }
        return text.charAt(cursor++);
    }

    private void wrongUnless(boolean holds, int number) {
        if (!holds) {
            throw new Fault(number, cursor - 1);
        }
    }

    private String line(String text, String first, String rest, int before, int most) {
        String line = "";
        while (true) {
            char c = next(text);
            if (c == '\n' && !line.isEmpty()) {
                return line;
            }
            wrongUnless((line.isEmpty() ? first : rest).indexOf(c) >= 0, 2);
            wrongUnless(before + line.length() < most, 3);
            line += c;
        }
    }

    private static String signs() {
        StringBuilder all = new StringBuilder();
        for (char c = 33; c <= 126; c++) {
            all.append(c);
        }
        return all.toString();
    }

    private Read head(String text, char mark, int before) {
        wrongUnless(next(text) == mark, 2);
        wrongUnless(before < 60, 4);
        Read read = new Read();
        read.name = line(text, signs(), signs(), 0, 40);
        return read;
    }

    private Read readWithQualities(String text, int before) {
        Read read = head(text, '@', before);
        read.letters = line(text, "ACGTN", "ACGTN", 0, 120);
        wrongUnless(next(text) == '+', 2);
        char c = next(text);
        if (c != '\n') {
            cursor--;
            for (char due : (read.name + "\n").toCharArray()) {
                wrongUnless(next(text) == due, 2);
            }
        }
        for (int k = 0; k < read.letters.length(); k++) {
            c = next(text);
            wrongUnless(c >= 33 && c <= 126, 2);
            read.qualities.add(c - 33);
        }
        wrongUnless(next(text) == '\n', 2);
        return read;
    }

    private Read readLetters(String text, int before) {
        Read read = head(text, '>', before);
        do {
            read.letters += line(text, "ACGTN", "ACGTN", read.letters.length(), 120);
        } while (cursor < text.length() && text.charAt(cursor) != '>');
        for (int k = 0; k < read.letters.length(); k++) {
            read.qualities.add(40);
        }
        return read;
    }

    int place() {
        return place;
    }

    int barcode() {
        String text = useTape();
        boolean fits = text.matches("[ACGT]{1,12}") && !text.endsWith("\n");
        if (!fits || barcodes.size() == 16 || barcodes.contains(text)
            || !barcodes.isEmpty() && barcodes.get(0).length() != text.length()) {
            return -1;
        }
        barcodes.add(text);
        return barcodes.size() - 1;
    }

    int adapter() {
        String text = useTape();
        if (!text.isEmpty() && !text.matches("[ACGT]{3,30}")) {
            return -1;
        }
        adapter = text;
        return text.length();
    }

    boolean limits(int begin, int end, int leastLetters) {
        if (begin < 0 || begin > 93 || end < 0 || end > 93 || leastLetters < 0 || leastLetters > 120) {
            return false;
        }
        atBegin = begin;
        atEnd = end;
        least = leastLetters;
        return true;
    }

    private static int distance(String a, String b) {
        int differing = 0;
        for (int k = 0; k < a.length(); k++) {
            differing += a.charAt(k) == b.charAt(k) ? 0 : 1;
        }
        return differing;
    }

    private int spread() {
        int spread = 13;
        for (String a : barcodes) {
            for (String b : barcodes) {
                spread = a.equals(b) ? spread : Math.min(spread, distance(a, b));
            }
        }
        return spread;
    }

    private int barcodeLetters() {
        return barcodes.isEmpty() ? 0 : barcodes.get(0).length();
    }

    int told(int what) {
        index(what >= 0 && what <= 3);
        return new int[] {spread(), barcodes.size(), barcodeLetters(), reads.size()}[what];
    }

    int sort(int u, int way) {
        argument(u >= 0 && u <= 12 && way >= 0 && way <= 1);
        int outside = 0;
        for (Read read : reads) {
            sortOne(read, u);
            outside += read.bin == -1 ? 1 : 0;
        }
        sortedBins = barcodes.size();
        for (int bin = 0; bin < sortedBins; bin++) {
            groupBin(bin, way);
        }
        return outside;
    }

    private void sortOne(Read read, int u) {
        int size = barcodeLetters();
        read.bin = -1;
        read.group = -1;
        read.tag = "";
        read.begin = 0;
        read.end = read.letters.length();
        for (int b = 0; b < barcodes.size() && read.end >= size + u; b++) {
            if (distance(barcodes.get(b), read.letters.substring(0, size)) <= Math.floorDiv(spread() - 1, 2)) {
                read.bin = b;
                read.tag = read.letters.substring(size, size + u);
                read.begin = size + u;
            }
        }
        cutAdapter(read);
        read.end -= worst(read, read.end - 1, -1, atEnd);
        read.begin += worst(read, read.begin, 1, atBegin);
        String insert = read.letters.substring(read.begin, read.end);
        read.begin += insert.length() - insert.replaceFirst("^N+", "").length();
        insert = insert.replaceFirst("^N+", "");
        read.end -= insert.length() - insert.replaceFirst("N+$", "").length();
        read.isShort = read.end - read.begin < least;
    }

    private void cutAdapter(Read read) {
        for (int at = read.begin; at + 3 <= read.end && !adapter.isEmpty(); at++) {
            int size = Math.min(adapter.length(), read.end - at);
            if (5 * distance(adapter.substring(0, size), read.letters.substring(at, at + size)) <= size) {
                read.end = at;
                return;
            }
        }
    }

    /** How many letters go from a place on, in a direction: all sums first, then the greatest of those before the stop. */
    private int worst(Read read, int from, int direction, int limit) {
        List<Integer> sums = new ArrayList<>();
        int sum = 0;
        for (int at = from; at >= read.begin && at < read.end; at += direction) {
            sum += limit - read.qualities.get(at);
            sums.add(sum);
        }
        int stop = 0;
        while (stop < sums.size() && sums.get(stop) >= 0) {
            stop++;
        }
        int greatest = sums.subList(0, stop).stream().mapToInt(s -> s).max().orElse(0);
        return limit == 0 || greatest <= 0 ? 0 : sums.indexOf(greatest) + 1;
    }

    private void groupBin(int bin, int way) {
        Map<String, Integer> counts = new LinkedHashMap<>();
        for (Read read : reads) {
            if (read.bin == bin && !read.isShort) {
                counts.merge(read.tag, 1, Integer::sum);
            }
        }
        List<String> order = new ArrayList<>(counts.keySet());
        if (way == 1) {
            order.sort(Comparator.comparing((String tag) -> -counts.get(tag)).thenComparing(tag -> tag));
        }
        Map<String, Integer> groups = new LinkedHashMap<>();
        int number = 0;
        for (String tag : order) {
            if (!groups.containsKey(tag)) {
                spreadGroup(tag, number++, groups, counts, way);
            }
        }
        for (Read read : reads) {
            if (read.bin == bin && !read.isShort) {
                read.group = groups.get(read.tag);
            }
        }
    }

    private void spreadGroup(String tag, int number, Map<String, Integer> groups, Map<String, Integer> counts, int way) {
        groups.put(tag, number);
        for (String other : counts.keySet()) {
            boolean few = counts.get(other) * 2 - 1 <= counts.get(tag);
            if (!groups.containsKey(other) && distance(tag, other) <= 1 && (way == 0 || few)) {
                spreadGroup(other, number, groups, counts, way);
            }
        }
    }

    int about(int i, int what) {
        index(i >= 0 && i < reads.size() && what >= 0 && what <= 6);
        Read read = reads.get(i);
        if (what >= 2 && sortedBins < 0) {
            return -1;
        }
        return new int[] {read.name.length(), read.letters.length(), read.bin, read.begin, read.end,
            read.isShort ? 1 : 0, read.group}[what];
    }

    int letter(int i, int which, int k) {
        index(i >= 0 && i < reads.size() && which >= 0 && which <= 2 && k >= 0);
        Read read = reads.get(i);
        index(k < (which == 0 ? read.name : read.letters).length());
        return which == 2 ? read.qualities.get(k) : (which == 0 ? read.name : read.letters).charAt(k);
    }

    private boolean isBin(int bin) {
        return bin >= -1 && bin < (sortedBins < 0 ? barcodes.size() : sortedBins);
    }

    private List<Read> inBin(int bin) {
        List<Read> found = new ArrayList<>();
        for (Read read : reads) {
            if (read.bin == bin) {
                found.add(read);
            }
        }
        return found;
    }

    int bin(int bin, int what) {
        index(isBin(bin) && what >= 0 && what <= 2);
        state(sortedBins >= 0);
        List<Read> found = inBin(bin);
        long shorts = found.stream().filter(read -> read.isShort).count();
        return new int[] {found.size(), (int) shorts, found.stream().mapToInt(read -> read.group + 1).max().orElse(0)}[what];
    }

    private List<Read> members(int bin, int g) {
        List<Read> found = inBin(bin);
        found.removeIf(read -> read.group != g);
        return found;
    }

    private Read best(int bin, int g) {
        Read best = null;
        for (Read read : members(bin, g)) {
            best = best == null || read.worth() > best.worth() ? read : best;
        }
        return best;
    }

    int group(int bin, int g, int what) {
        index(isBin(bin) && what >= 0 && what <= 2);
        state(sortedBins >= 0);
        index(g >= 0 && bin >= 0 && !members(bin, g).isEmpty());
        int tags = (int) members(bin, g).stream().map(read -> read.tag).distinct().count();
        return new int[] {members(bin, g).size(), reads.indexOf(best(bin, g)), tags}[what];
    }

    int write(int form, int bin, boolean best) {
        argument(form == 0 || form == 1);
        index(bin == -2 || isBin(bin));
        state(bin == -2 || sortedBins >= 0);
        StringBuilder text = new StringBuilder();
        for (Read read : reads) {
            if (bin == -2) {
                text.append(text(form, read, 0, read.letters.length()));
            } else if (read.bin == bin && !read.isShort && (!best || bin >= 0 && best(bin, read.group) == read)) {
                text.append(text(form, read, read.begin, read.end));
            }
        }
        if (text.length() > 12000) {
            return -1;
        }
        written = text.toString();
        return written.length();
    }

    private static String text(int form, Read read, int begin, int end) {
        String letters = read.letters.substring(begin, end);
        if (letters.isEmpty()) {
            return "";
        }
        if (form == 1) {
            return ">" + read.name + "\n" + letters.replaceAll("(.{1,60})", "$1\n");
        }
        StringBuilder text = new StringBuilder("@" + read.name + "\n" + letters + "\n+\n");
        for (int quality : read.qualities.subList(begin, end)) {
            text.append((char) (quality + 33));
        }
        return text.append("\n").toString();
    }

    int out(int k) {
        index(k >= 0 && k < written.length());
        return written.charAt(k);
    }

    int again() {
        if (written.length() > 6000) {
            return -1;
        }
        tape = written;
        return tape.length();
    }
}
