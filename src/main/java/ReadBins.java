/**
 * Reads of letters with qualities: they are read from a tape and written in two forms, put into
 * the bins of barcodes, trimmed, and grouped in each bin by tags that differ little.
 *
 * <p>All rows are made with the object and used again by every call.
 */
public final class ReadBins {
    public static final int NONE = -1;

    private static final int TAPE_LIMIT = 6000;
    private static final int WRITTEN_LIMIT = 12000;
    private static final int READ_LIMIT = 60;
    private static final int NAME_LIMIT = 40;
    private static final int LETTER_LIMIT = 120;
    private static final int QUALITY_LIMIT = 93;
    private static final int BARCODE_LIMIT = 16;
    private static final int BARCODE_LETTERS = 12;
    private static final int TAG_LIMIT = 12;
    private static final int ADAPTER_LEAST = 3;
    private static final int ADAPTER_LIMIT = 30;

    private static final int FORM_WITH_QUALITIES = 0;
    private static final int FORM_OF_LETTERS = 1;
    private static final int LINE_END = 10;
    private static final int LOWEST_SIGN = 33;
    private static final int HIGHEST_SIGN = 126;
    private static final int LINE_LETTERS = 60;

    private static final int NO_BIN = -1;
    private static final int ALL_READS = -2;

    private final Row tape = new Row(TAPE_LIMIT);
    private final Row written = new Row(WRITTEN_LIMIT);
    private final Parser parser = new Parser();
    private final Barcodes barcodes = new Barcodes();
    private final Trimmer trimmer = new Trimmer();
    private final Sorting sorting = new Sorting();
    private Reads reads = new Reads();
    private int faultPlace = NONE;

    public ReadBins() {
    }

    public int feed(int n, long octets) throws IllegalArgumentException {
        if (n < 1 || n > 8 || n > tape.room()) {
            throw new IllegalArgumentException("n is not 1 .. 8, or the tape would be too long");
        }
        for (int k = 0; k < n; k++) {
            tape.add((int) (octets >>> (8 * k)) & 255);
        }
        return tape.size();
    }

    public int read(int form) throws IllegalArgumentException {
        if (!isForm(form)) {
            throw new IllegalArgumentException("the form is not 0 or 1");
        }
        int fault = parser.parse(tape, form);
        tape.clear();
        if (fault != Parser.NO_FAULT) {
            faultPlace = parser.faultAt();
            return -fault;
        }
        reads = parser.exchange(reads);
        sorting.forget();
        return reads.count();
    }

    public int place() {
        return faultPlace;
    }

    public int barcode() {
        int number = barcodes.take(tape);
        tape.clear();
        return number;
    }

    public int adapter() {
        int size = trimmer.takeAdapter(tape);
        tape.clear();
        return size;
    }

    public boolean limits(int begin, int end, int least) {
        if (!isWithin(begin, QUALITY_LIMIT) || !isWithin(end, QUALITY_LIMIT) || !isWithin(least, LETTER_LIMIT)) {
            return false;
        }
        trimmer.setLimits(begin, end, least);
        return true;
    }

    public int told(int what) throws IndexOutOfBoundsException {
        switch (what) {
            case 0:
                return barcodes.spread();
            case 1:
                return barcodes.count();
            case 2:
                return barcodes.length();
            case 3:
                return reads.count();
            default:
                throw new IndexOutOfBoundsException("what is not 0 .. 3");
        }
    }

    public int sort(int u, int way) throws IllegalArgumentException {
        if (!isWithin(u, TAG_LIMIT) || !isWithin(way, 1)) {
            throw new IllegalArgumentException("u is not 0 .. 12, or the way is not 0 or 1");
        }
        sorting.restart(barcodes.count(), u, way);
        for (int i = 0; i < reads.count(); i++) {
            sortRead(i, u);
        }
        sorting.finish();
        return sorting.readsIn(NO_BIN);
    }

    private void sortRead(int i, int u) {
        int headSize = barcodes.length() + u;
        int bin = reads.letterCount(i) < headSize ? NO_BIN : barcodes.nearTo(reads, i);
        trimmer.cut(reads, i, bin == NO_BIN ? 0 : headSize);
        sorting.add(reads, bin, trimmer);
        if (bin != NO_BIN && !trimmer.isTooShort()) {
            sorting.grouping().enter(reads, i, bin, barcodes.length());
        }
    }

    public int about(int i, int what) throws IndexOutOfBoundsException {
        if (!reads.has(i) || !isWithin(what, 6)) {
            throw new IndexOutOfBoundsException("there is no such read, or what is not 0 .. 6");
        }
        if (what == 0) {
            return reads.nameSize(i);
        }
        if (what == 1) {
            return reads.letterCount(i);
        }
        return sorting.isDone() ? aboutSorted(i, what) : NONE;
    }

    private int aboutSorted(int i, int what) {
        switch (what) {
            case 2:
                return sorting.binOf(i);
            case 3:
                return sorting.beginOf(i);
            case 4:
                return sorting.endOf(i);
            case 5:
                return sorting.isShort(i) ? 1 : 0;
            default:
                return sorting.grouping().groupOf(i);
        }
    }

    public int letter(int i, int which, int k) throws IndexOutOfBoundsException {
        int answer = NONE;
        if (which == 0) {
            answer = reads.nameOctet(i, k);
        } else if (which == 1) {
            answer = reads.letterOctet(i, k);
        } else if (which == 2) {
            answer = reads.quality(i, k);
        }
        if (answer == NONE) {
            throw new IndexOutOfBoundsException("there is no such octet, letter or quality");
        }
        return answer;
    }

    public int bin(int bin, int what) throws IndexOutOfBoundsException, IllegalStateException {
        if (!hasBin(bin) || !isWithin(what, 2)) {
            throw new IndexOutOfBoundsException("there is no such bin, or what is not 0 .. 2");
        }
        if (!sorting.isDone()) {
            throw new IllegalStateException("nothing is sorted");
        }
        if (what == 0) {
            return sorting.readsIn(bin);
        }
        return what == 1 ? sorting.shortReadsIn(bin) : sorting.grouping().groupsIn(bin);
    }

    public int group(int bin, int g, int what) throws IndexOutOfBoundsException, IllegalStateException {
        if (!hasBin(bin) || !isWithin(what, 2)) {
            throw new IndexOutOfBoundsException("there is no such bin, or what is not 0 .. 2");
        }
        if (!sorting.isDone()) {
            throw new IllegalStateException("nothing is sorted");
        }
        if (g < 0 || g >= sorting.grouping().groupsIn(bin)) {
            throw new IndexOutOfBoundsException("there is no such group");
        }
        if (what == 0) {
            return sorting.grouping().readsIn(bin, g);
        }
        return what == 1 ? sorting.bestOf(bin, g) : sorting.grouping().tagsIn(bin, g);
    }

    public int write(int form, int bin, boolean best)
            throws IllegalArgumentException, IndexOutOfBoundsException, IllegalStateException {
        if (!isForm(form)) {
            throw new IllegalArgumentException("the form is not 0 or 1");
        }
        if (bin != ALL_READS && !hasBin(bin)) {
            throw new IndexOutOfBoundsException("there is no such bin");
        }
        if (bin != ALL_READS && !sorting.isDone()) {
            throw new IllegalStateException("nothing is sorted");
        }
        // The size is known before the first octet is put down: a text too long must leave the last one.
        int size = sizeOfText(form, bin, best);
        if (size > WRITTEN_LIMIT) {
            return NONE;
        }
        writeText(form, bin, best);
        return size;
    }

    public int out(int k) throws IndexOutOfBoundsException {
        int octet = written.at(k);
        if (octet == NONE) {
            throw new IndexOutOfBoundsException("there is no such octet");
        }
        return octet;
    }

    public int again() {
        if (written.size() > TAPE_LIMIT) {
            return NONE;
        }
        tape.copy(written);
        return tape.size();
    }

    private int sizeOfText(int form, int bin, boolean best) {
        int size = 0;
        for (int i = 0; i < reads.count(); i++) {
            if (isChosen(i, bin, best)) {
                size += Writer.sizeOfRead(reads.nameSize(i), lastOf(i, bin) - firstOf(i, bin), form);
            }
        }
        return size;
    }

    private void writeText(int form, int bin, boolean best) {
        written.clear();
        for (int i = 0; i < reads.count(); i++) {
            if (isChosen(i, bin, best)) {
                Writer.putRead(written, reads, i, form, firstOf(i, bin), lastOf(i, bin));
            }
        }
    }

    private boolean isChosen(int i, int bin, boolean best) {
        if (firstOf(i, bin) >= lastOf(i, bin)) {
            return false;
        }
        if (bin == ALL_READS) {
            return true;
        }
        return sorting.binOf(i) == bin && !sorting.isShort(i) && (!best || sorting.isBest(i));
    }

    private int firstOf(int i, int bin) {
        return bin == ALL_READS ? 0 : sorting.beginOf(i);
    }

    private int lastOf(int i, int bin) {
        return bin == ALL_READS ? reads.letterCount(i) : sorting.endOf(i);
    }

    // What is sorted keeps its bins when barcodes come later.
    private boolean hasBin(int bin) {
        int bins = sorting.isDone() ? sorting.binCount() : barcodes.count();
        return bin >= NO_BIN && bin < bins;
    }

    private static boolean isForm(int form) {
        return form == FORM_WITH_QUALITIES || form == FORM_OF_LETTERS;
    }

    private static boolean isWithin(int number, int greatest) {
        return number >= 0 && number <= greatest;
    }

    private static boolean isSign(int octet) {
        return octet >= LOWEST_SIGN && octet <= HIGHEST_SIGN;
    }

    private static boolean isBase(int octet) {
        return octet == 'A' || octet == 'C' || octet == 'G' || octet == 'T';
    }

    private static boolean isLetter(int octet) {
        return isBase(octet) || octet == 'N';
    }

    /** Octets up to a limit; a place outside of it answers NONE, which no octet is. */
    private static final class Row {
        private final int[] octets;
        private int size;

        Row(int limit) {
            octets = new int[Math.max(limit, 0)];
        }

        int size() {
            return size;
        }

        int room() {
            return octets.length - size;
        }

        int at(int k) {
            return k >= 0 && k < size && k < octets.length ? octets[k] : NONE;
        }

        void add(int octet) {
            if (size >= 0 && size < octets.length) {
                octets[size] = octet;
                size++;
            }
        }

        void clear() {
            size = 0;
        }

        void copy(Row other) {
            clear();
            for (int k = 0; k < other.size(); k++) {
                add(other.at(k));
            }
        }

        boolean isOfBases(int least, int greatest) {
            if (size < least || size > greatest) {
                return false;
            }
            for (int k = 0; k < size; k++) {
                if (!isBase(at(k))) {
                    return false;
                }
            }
            return true;
        }
    }

    /**
     * The reads of one text. Name, letters and the octets of qualities of a read stand one behind
     * the other in one row: a text on the tape never has more of them than the tape has octets.
     */
    private static final class Reads {
        private static final int QUALITY_WITHOUT_TEXT = 40;

        private final Row octets = new Row(TAPE_LIMIT);
        private final int[] starts = new int[READ_LIMIT];
        private final int[] nameSizes = new int[READ_LIMIT];
        private final int[] letterCounts = new int[READ_LIMIT];
        private int count;
        private boolean withQualities;

        void restart(boolean qualitiesToo) {
            octets.clear();
            count = 0;
            withQualities = qualitiesToo;
        }

        void begin() {
            if (count >= 0 && count < READ_LIMIT) {
                starts[count] = octets.size();
                nameSizes[count] = 0;
                letterCounts[count] = 0;
                count++;
            }
        }

        void addToName(int octet) {
            if (has(count - 1)) {
                octets.add(octet);
                nameSizes[count - 1]++;
            }
        }

        void addLetter(int octet) {
            if (has(count - 1)) {
                octets.add(octet);
                letterCounts[count - 1]++;
            }
        }

        void addQuality(int octet) {
            octets.add(octet);
        }

        int count() {
            return count;
        }

        boolean has(int i) {
            return i >= 0 && i < count && i < READ_LIMIT;
        }

        int nameSize(int i) {
            return has(i) ? nameSizes[i] : 0;
        }

        int letterCount(int i) {
            return has(i) ? letterCounts[i] : 0;
        }

        int nameOctet(int i, int k) {
            return has(i) && k >= 0 && k < nameSizes[i] ? octets.at(starts[i] + k) : NONE;
        }

        int letterOctet(int i, int k) {
            return hasLetter(i, k) ? octets.at(starts[i] + nameSizes[i] + k) : NONE;
        }

        int quality(int i, int k) {
            if (!hasLetter(i, k)) {
                return NONE;
            }
            if (!withQualities) {
                return QUALITY_WITHOUT_TEXT;
            }
            return octets.at(starts[i] + nameSizes[i] + letterCounts[i] + k) - LOWEST_SIGN;
        }

        private boolean hasLetter(int i, int k) {
            return i >= 0 && i < count && i < READ_LIMIT && k >= 0 && k < letterCounts[i];
        }
    }

    /**
     * Reads a text octet after octet into reads of its own, so that a fault leaves the others alone.
     * An octet that can't stand at its place is fault 2 even where the place itself is too many.
     */
    private static final class Parser {
        static final int NO_FAULT = 0;
        private static final int TAPE_ENDS = 1;
        private static final int WRONG_OCTET = 2;
        private static final int TOO_LONG = 3;
        private static final int TOO_MANY_READS = 4;

        private static final int AT_MARK = 0;
        private static final int IN_NAME = 1;
        private static final int IN_LETTERS = 2;
        private static final int AT_PLUS = 3;
        private static final int BEHIND_PLUS = 4;
        private static final int IN_QUALITIES = 5;

        private Reads draft = new Reads();
        private int form;
        private int state;
        private int lineSize;
        private int faultAt;

        int parse(Row text, int textForm) {
            form = textForm;
            draft.restart(form == FORM_WITH_QUALITIES);
            enter(AT_MARK);
            for (int at = 0; at < text.size(); at++) {
                int fault = step(text.at(at));
                if (fault != NO_FAULT) {
                    faultAt = at;
                    return fault;
                }
            }
            faultAt = text.size();
            return isWhole() ? NO_FAULT : TAPE_ENDS;
        }

        int faultAt() {
            return faultAt;
        }

        /** Hands out the reads of the last text, for others that may be written over. */
        Reads exchange(Reads other) {
            Reads done = draft;
            draft = other;
            return done;
        }

        private boolean isWhole() {
            if (form == FORM_WITH_QUALITIES) {
                return state == AT_MARK && draft.count() > 0;
            }
            return state == IN_LETTERS && mayEndHere();
        }

        // Only in form 1: a read is whole at the begin of a line behind one of its letters.
        private boolean mayEndHere() {
            return lineSize == 0 && draft.letterCount(last()) > 0;
        }

        private int last() {
            return draft.count() - 1;
        }

        private int enter(int nextState) {
            state = nextState;
            lineSize = 0;
            return NO_FAULT;
        }

        private int step(int octet) {
            switch (state) {
                case AT_MARK:
                    return stepMark(octet);
                case IN_NAME:
                    return stepName(octet);
                case IN_LETTERS:
                    return stepLetters(octet);
                case AT_PLUS:
                    return octet == '+' ? enter(BEHIND_PLUS) : WRONG_OCTET;
                case BEHIND_PLUS:
                    return stepBehindPlus(octet);
                default:
                    return stepQualities(octet);
            }
        }

        private int stepMark(int octet) {
            if (octet != (form == FORM_WITH_QUALITIES ? '@' : '>')) {
                return WRONG_OCTET;
            }
            if (draft.count() >= READ_LIMIT) {
                return TOO_MANY_READS;
            }
            draft.begin();
            return enter(IN_NAME);
        }

        private int stepName(int octet) {
            int size = draft.nameSize(last());
            if (octet == LINE_END && size > 0) {
                return enter(IN_LETTERS);
            }
            if (!isSign(octet)) {
                return WRONG_OCTET;
            }
            if (size >= NAME_LIMIT) {
                return TOO_LONG;
            }
            draft.addToName(octet);
            return NO_FAULT;
        }

        private int stepLetters(int octet) {
            if (octet == LINE_END && lineSize > 0) {
                return enter(form == FORM_WITH_QUALITIES ? AT_PLUS : IN_LETTERS);
            }
            if (form == FORM_OF_LETTERS && octet == '>' && mayEndHere()) {
                return stepMark(octet);
            }
            if (!isLetter(octet)) {
                return WRONG_OCTET;
            }
            if (draft.letterCount(last()) >= LETTER_LIMIT) {
                return TOO_LONG;
            }
            draft.addLetter(octet);
            lineSize++;
            return NO_FAULT;
        }

        private int stepBehindPlus(int octet) {
            boolean mayEnd = lineSize == 0 || lineSize == draft.nameSize(last());
            if (octet == LINE_END && mayEnd) {
                return enter(IN_QUALITIES);
            }
            // Behind the whole name this is NONE, which no octet is.
            if (octet != draft.nameOctet(last(), lineSize)) {
                return WRONG_OCTET;
            }
            lineSize++;
            return NO_FAULT;
        }

        private int stepQualities(int octet) {
            if (lineSize >= draft.letterCount(last())) {
                return octet == LINE_END ? enter(AT_MARK) : WRONG_OCTET;
            }
            if (!isSign(octet)) {
                return WRONG_OCTET;
            }
            draft.addQuality(octet);
            lineSize++;
            return NO_FAULT;
        }
    }

    /** The barcodes, and which of them a read is near enough to. */
    private static final class Barcodes {
        private static final int SPREAD_OF_FEW = 13;

        private final int[] letters = new int[BARCODE_LIMIT * BARCODE_LETTERS];
        private final Row probe = new Row(BARCODE_LETTERS);
        private int count;
        private int length;
        private int spread = SPREAD_OF_FEW;

        int count() {
            return count;
        }

        int length() {
            return length;
        }

        int spread() {
            return spread;
        }

        int take(Row tape) {
            if (count >= BARCODE_LIMIT || !tape.isOfBases(1, BARCODE_LETTERS)) {
                return NONE;
            }
            if (count > 0 && tape.size() != length) {
                return NONE;
            }
            int least = SPREAD_OF_FEW;
            for (int b = 0; b < count; b++) {
                least = Math.min(least, distance(b, tape));
            }
            if (least == 0) {
                return NONE;
            }
            length = tape.size();
            spread = Math.min(spread, least);
            keep(tape);
            return count - 1;
        }

        /** The barcode that the first letters of a read are near to, or NO_BIN. */
        int nearTo(Reads reads, int i) {
            probe.clear();
            for (int k = 0; k < length; k++) {
                probe.add(reads.letterOctet(i, k));
            }
            int reach = (spread - 1) / 2;
            for (int b = 0; b < count; b++) {
                if (distance(b, probe) <= reach) {
                    return b;
                }
            }
            return NO_BIN;
        }

        private void keep(Row tape) {
            for (int k = 0; k < length; k++) {
                int at = count * BARCODE_LETTERS + k;
                if (at >= 0 && at < letters.length) {
                    letters[at] = tape.at(k);
                }
            }
            count++;
        }

        private int distance(int b, Row other) {
            int differing = 0;
            for (int k = 0; k < length; k++) {
                int at = b * BARCODE_LETTERS + k;
                if (at >= 0 && at < letters.length && letters[at] != other.at(k)) {
                    differing++;
                }
            }
            return differing;
        }
    }

    /** Cuts inserts, by what was told of adapter, limits and least size. */
    private static final class Trimmer {
        private final Row adapter = new Row(ADAPTER_LIMIT);
        private int limitAtBegin;
        private int limitAtEnd;
        private int least = 1;
        private int begin;
        private int end;

        int takeAdapter(Row tape) {
            if (tape.size() != 0 && !tape.isOfBases(ADAPTER_LEAST, ADAPTER_LIMIT)) {
                return NONE;
            }
            adapter.copy(tape);
            return adapter.size();
        }

        void setLimits(int atBegin, int atEnd, int leastLetters) {
            limitAtBegin = atBegin;
            limitAtEnd = atEnd;
            least = leastLetters;
        }

        int begin() {
            return begin;
        }

        int end() {
            return end;
        }

        boolean isTooShort() {
            return end - begin < least;
        }

        /** Cuts the insert of read i that begins at a letter; begin() and end() tell what is left. */
        void cut(Reads reads, int i, int from) {
            begin = from;
            end = reads.letterCount(i);
            cutAdapter(reads, i);
            cutWorstEnd(reads, i);
            cutWorstBegin(reads, i);
            cutUnknown(reads, i);
        }

        private void cutAdapter(Reads reads, int i) {
            if (adapter.size() == 0) {
                return;
            }
            for (int at = begin; at <= end - ADAPTER_LEAST; at++) {
                if (adapterBegins(reads, i, at)) {
                    end = at;
                    return;
                }
            }
        }

        private boolean adapterBegins(Reads reads, int i, int at) {
            int compared = Math.min(adapter.size(), end - at);
            int allowed = compared / 5;
            int differing = 0;
            for (int k = 0; k < compared && differing <= allowed; k++) {
                if (adapter.at(k) != reads.letterOctet(i, at + k)) {
                    differing++;
                }
            }
            return differing <= allowed;
        }

        private void cutWorstEnd(Reads reads, int i) {
            int sum = 0;
            int greatest = 0;
            int cutAt = end;
            for (int at = end - 1; at >= begin && sum >= 0; at--) {
                sum += limitAtEnd - reads.quality(i, at);
                if (sum > greatest) {
                    greatest = sum;
                    cutAt = at;
                }
            }
            end = cutAt;
        }

        private void cutWorstBegin(Reads reads, int i) {
            int sum = 0;
            int greatest = 0;
            int cutBehind = begin;
            for (int at = begin; at < end && sum >= 0; at++) {
                sum += limitAtBegin - reads.quality(i, at);
                if (sum > greatest) {
                    greatest = sum;
                    cutBehind = at + 1;
                }
            }
            begin = cutBehind;
        }

        private void cutUnknown(Reads reads, int i) {
            while (begin < end && reads.letterOctet(i, begin) == 'N') {
                begin++;
            }
            while (begin < end && reads.letterOctet(i, end - 1) == 'N') {
                end--;
            }
        }
    }

    /** What is sorted: of each read its bin, its insert and whether that is short. */
    private static final class Sorting {
        private final int[] bins = new int[READ_LIMIT];
        private final int[] begins = new int[READ_LIMIT];
        private final int[] ends = new int[READ_LIMIT];
        private final int[] worths = new int[READ_LIMIT];
        private final boolean[] shorts = new boolean[READ_LIMIT];
        private final Grouping grouping = new Grouping();
        private boolean done;
        private int readCount;
        private int binCount;

        void forget() {
            done = false;
        }

        boolean isDone() {
            return done;
        }

        int binCount() {
            return binCount;
        }

        Grouping grouping() {
            return grouping;
        }

        /** Until it is finished, the reads are added in their order. */
        void restart(int barcodeCount, int tagSize, int way) {
            readCount = 0;
            binCount = barcodeCount;
            grouping.restart(tagSize, way);
        }

        void add(Reads reads, int bin, Trimmer trimmer) {
            int i = readCount;
            if (i < 0 || i >= READ_LIMIT) {
                return;
            }
            bins[i] = bin;
            begins[i] = trimmer.begin();
            ends[i] = trimmer.end();
            shorts[i] = trimmer.isTooShort();
            worths[i] = sumOfQualities(reads, i);
            readCount++;
        }

        void finish() {
            for (int bin = 0; bin < binCount; bin++) {
                grouping.formGroups(bin);
            }
            done = true;
        }

        int binOf(int i) {
            return has(i) ? bins[i] : NO_BIN;
        }

        int beginOf(int i) {
            return has(i) ? begins[i] : 0;
        }

        int endOf(int i) {
            return has(i) ? ends[i] : 0;
        }

        boolean isShort(int i) {
            return has(i) && shorts[i];
        }

        int readsIn(int bin) {
            int found = 0;
            for (int i = 0; i < readCount; i++) {
                if (binOf(i) == bin) {
                    found++;
                }
            }
            return found;
        }

        int shortReadsIn(int bin) {
            int found = 0;
            for (int i = 0; i < readCount; i++) {
                if (binOf(i) == bin && isShort(i)) {
                    found++;
                }
            }
            return found;
        }

        int bestOf(int bin, int g) {
            int best = NONE;
            for (int i = 0; i < readCount; i++) {
                if (grouping.isMember(i, bin, g) && (best == NONE || worthOf(i) > worthOf(best))) {
                    best = i;
                }
            }
            return best;
        }

        boolean isBest(int i) {
            int g = grouping.groupOf(i);
            return g != NONE && bestOf(binOf(i), g) == i;
        }

        private boolean has(int i) {
            return i >= 0 && i < readCount && i < READ_LIMIT;
        }

        private int worthOf(int i) {
            return has(i) ? worths[i] : 0;
        }

        private int sumOfQualities(Reads reads, int i) {
            int sum = 0;
            for (int k = begins[i]; k < ends[i]; k++) {
                sum += reads.quality(i, k);
            }
            return sum;
        }
    }

    /**
     * The groups of each bin. The first read of a bin with a tag stands for that tag: groups are
     * made of these alone, and the other reads take the group of the one that stands for them.
     */
    private static final class Grouping {
        private final int[] tags = new int[READ_LIMIT * TAG_LIMIT];
        private final int[] homes = new int[READ_LIMIT];
        private final int[] firsts = new int[READ_LIMIT];
        private final int[] counts = new int[READ_LIMIT];
        private final int[] groups = new int[READ_LIMIT];
        private final int[] waiting = new int[READ_LIMIT];
        private final int[] groupCounts = new int[BARCODE_LIMIT];
        private int tagSize;
        private boolean byCount;

        void restart(int size, int way) {
            tagSize = Math.min(size, TAG_LIMIT);
            byCount = way == 1;
            for (int i = 0; i < READ_LIMIT; i++) {
                homes[i] = NO_BIN;
                firsts[i] = NONE;
                counts[i] = 0;
                groups[i] = NONE;
            }
            for (int bin = 0; bin < BARCODE_LIMIT; bin++) {
                groupCounts[bin] = 0;
            }
        }

        /** Reads enter in their order, those that are in a bin and not short. */
        void enter(Reads reads, int i, int bin, int tagAt) {
            if (!isRead(i)) {
                return;
            }
            for (int k = 0; k < tagSize; k++) {
                tags[i * TAG_LIMIT + k] = reads.letterOctet(i, tagAt + k);
            }
            homes[i] = bin;
            int first = firstAlike(i);
            firsts[i] = first;
            counts[first]++;
        }

        void formGroups(int bin) {
            if (!isBin(bin)) {
                return;
            }
            for (int n = 0; n < READ_LIMIT; n++) {
                int seed = byCount ? greatestOpen(bin) : firstOpen(bin);
                if (seed == NONE) {
                    break;
                }
                growGroup(bin, seed, groupCounts[bin]);
                groupCounts[bin]++;
            }
            for (int i = 0; i < READ_LIMIT; i++) {
                if (homes[i] == bin && isRead(firsts[i])) {
                    groups[i] = groups[firsts[i]];
                }
            }
        }

        int groupOf(int i) {
            return isRead(i) ? groups[i] : NONE;
        }

        int groupsIn(int bin) {
            return isBin(bin) ? groupCounts[bin] : 0;
        }

        boolean isMember(int i, int bin, int g) {
            return isRead(i) && homes[i] == bin && groups[i] == g;
        }

        int readsIn(int bin, int g) {
            int found = 0;
            for (int i = 0; i < READ_LIMIT; i++) {
                if (isMember(i, bin, g)) {
                    found++;
                }
            }
            return found;
        }

        int tagsIn(int bin, int g) {
            int found = 0;
            for (int i = 0; i < READ_LIMIT; i++) {
                if (isMember(i, bin, g) && firsts[i] == i) {
                    found++;
                }
            }
            return found;
        }

        private static boolean isRead(int i) {
            return i >= 0 && i < READ_LIMIT;
        }

        private static boolean isBin(int bin) {
            return bin >= 0 && bin < BARCODE_LIMIT;
        }

        private int firstAlike(int i) {
            for (int j = 0; j < i; j++) {
                if (homes[j] == homes[i] && distance(j, i) == 0) {
                    return j;
                }
            }
            return i;
        }

        private boolean isOpen(int i, int bin) {
            return homes[i] == bin && firsts[i] == i && groups[i] == NONE;
        }

        private int firstOpen(int bin) {
            for (int i = 0; i < READ_LIMIT; i++) {
                if (isOpen(i, bin)) {
                    return i;
                }
            }
            return NONE;
        }

        private int greatestOpen(int bin) {
            int greatest = NONE;
            for (int i = 0; i < READ_LIMIT; i++) {
                if (isOpen(i, bin) && (greatest == NONE || comesBefore(i, greatest))) {
                    greatest = i;
                }
            }
            return greatest;
        }

        private boolean comesBefore(int i, int j) {
            if (counts[i] != counts[j]) {
                return counts[i] > counts[j];
            }
            // The octets of A C G N T are in the order that the document names.
            for (int k = 0; k < tagSize; k++) {
                int difference = tags[i * TAG_LIMIT + k] - tags[j * TAG_LIMIT + k];
                if (difference != 0) {
                    return difference < 0;
                }
            }
            return false;
        }

        private void growGroup(int bin, int seed, int g) {
            groups[seed] = g;
            waiting[0] = seed;
            int filled = 1;
            for (int next = 0; next < filled && next < READ_LIMIT; next++) {
                for (int i = 0; i < READ_LIMIT; i++) {
                    if (isOpen(i, bin) && draws(waiting[next], i) && filled < READ_LIMIT) {
                        groups[i] = g;
                        waiting[filled] = i;
                        filled++;
                    }
                }
            }
        }

        private boolean draws(int member, int other) {
            return distance(member, other) == 1 && (!byCount || 2 * counts[other] - 1 <= counts[member]);
        }

        private int distance(int i, int j) {
            int differing = 0;
            for (int k = 0; k < tagSize; k++) {
                if (tags[i * TAG_LIMIT + k] != tags[j * TAG_LIMIT + k]) {
                    differing++;
                }
            }
            return differing;
        }
    }

    /** Puts reads down in a form. */
    private static final class Writer {
        static int sizeOfRead(int nameSize, int letters, int form) {
            if (form == FORM_WITH_QUALITIES) {
                return nameSize + 2 * letters + 6;
            }
            int lines = (letters + LINE_LETTERS - 1) / LINE_LETTERS;
            return nameSize + letters + lines + 2;
        }

        static void putRead(Row to, Reads reads, int i, int form, int begin, int end) {
            to.add(form == FORM_WITH_QUALITIES ? '@' : '>');
            putName(to, reads, i);
            if (form == FORM_WITH_QUALITIES) {
                putLetters(to, reads, i, begin, end);
                to.add('+');
                to.add(LINE_END);
                putQualities(to, reads, i, begin, end);
            } else {
                for (int from = begin; from < end; from += LINE_LETTERS) {
                    putLetters(to, reads, i, from, Math.min(from + LINE_LETTERS, end));
                }
            }
        }

        private static void putName(Row to, Reads reads, int i) {
            for (int k = 0; k < reads.nameSize(i); k++) {
                to.add(reads.nameOctet(i, k));
            }
            to.add(LINE_END);
        }

        private static void putLetters(Row to, Reads reads, int i, int begin, int end) {
            for (int k = begin; k < end; k++) {
                to.add(reads.letterOctet(i, k));
            }
            to.add(LINE_END);
        }

        private static void putQualities(Row to, Reads reads, int i, int begin, int end) {
            for (int k = begin; k < end; k++) {
                to.add(LOWEST_SIGN + reads.quality(i, k));
            }
            to.add(LINE_END);
        }
    }
}
