import java.util.Arrays;

/**
 * An index that takes the place of the sequences it is made of. What is kept of a text is its
 * image, the links between the image's symbols, and the positions of every step-th place;
 * the text itself is not kept.
 *
 * Inside, a symbol is its number in the order of the symbols ($ 0, | 1, a 2 .. z 27), so that
 * comparing numbers is comparing symbols; codes stand only in what callers give and get.
 */
public final class SelfIndexedSequences {
    public static final int NONE = -1;

    private static final int MOST_SYMBOLS = 97;
    private static final int MOST_TEXT = 96;
    private static final int BYTES = 8;
    private static final int MOST_ERRORS = 4;

    private static final int SYMBOLS = 28;
    private static final int END = 0;
    private static final int BAR = 1;
    private static final int LETTER_A = 2;

    private static final int CODE_END = 36;
    private static final int CODE_BAR = 124;
    private static final int CODE_A = 97;
    private static final int CODE_Z = 122;

    private final int[] draft = new int[MOST_SYMBOLS];
    private int drafted;

    // Two, so that a draft that proves to be no image leaves the index as it was.
    private Image taken = new Image();
    private Image tried = new Image();

    private final Places places;
    private final Pattern sought = new Pattern();
    private final Finds finds = new Finds();

    public SelfIndexedSequences(int step) {
        places = new Places(step >= 2 && step <= 16 ? step : 4);
    }

    public boolean put(long symbols) {
        int more = 0;
        for (int b = 0; b < BYTES; b++) {
            int code = codeAt(symbols, b);
            if (code != 0) {
                if (symbolOf(code) == NONE) {
                    return false;
                }
                more++;
            }
        }
        if (drafted + more > MOST_SYMBOLS) {
            return false;
        }
        for (int b = 0; b < BYTES; b++) {
            int code = codeAt(symbols, b);
            if (code != 0) {
                draft[drafted] = symbolOf(code);
                drafted++;
            }
        }
        return true;
    }

    public void scrap() {
        drafted = 0;
    }

    public int build() {
        if (drafted > MOST_TEXT || draftHasEnd()) {
            return NONE;
        }
        tried.makeFromText(draft, drafted);
        takeTried();
        return places.sequences;
    }

    public boolean load() {
        tried.copyFrom(draft, drafted);
        if (!tried.isOfText()) {
            return false;
        }
        takeTried();
        return true;
    }

    public int size() {
        return taken.size;
    }

    public long image(int k) {
        // Looked at first because 8 * k may wrap around.
        if (k < 0 || k > taken.size / BYTES) {
            return 0L;
        }
        long word = 0L;
        for (int b = 0; b < BYTES; b++) {
            int row = BYTES * k + b;
            if (row < taken.size) {
                word |= codeInByte(taken.symbols[row], b);
            }
        }
        return word;
    }

    public int rank(int symbol, int i) {
        int known = symbolOf(symbol);
        if (known == NONE || i < 0 || i > taken.size) {
            return NONE;
        }
        return taken.among(known, i);
    }

    public int suffix(int k) {
        return hasRow(k) ? places.ofRow(taken, k) : NONE;
    }

    public int walk(int k) {
        return hasRow(k) ? places.ofRow(taken, k) % places.step : NONE;
    }

    public int sequences() {
        return places.sequences;
    }

    public int length(int sequence) {
        return places.lettersOf(sequence);
    }

    public long extract(int sequence, int offset) {
        int letters = places.lettersOf(sequence);
        if (offset < 0 || offset >= letters) {
            return 0L;
        }
        int row = places.rowOf(places.starts[sequence] + offset);
        long word = 0L;
        for (int b = 0; b < BYTES && b < letters - offset; b++) {
            row = places.ahead[row];
            word |= codeInByte(taken.symbols[row], b);
        }
        return word;
    }

    public int count(long pattern) {
        if (!sought.read(pattern)) {
            return NONE;
        }
        taken.search(sought);
        return taken.high - taken.low;
    }

    public int place(long pattern, int i) {
        if (!sought.read(pattern)) {
            return NONE;
        }
        findExact();
        int place = finds.numbered(i, 0);
        if (place == NONE) {
            return NONE;
        }
        int sequence = places.sequenceAt(place);
        return 100 * sequence + place - places.starts[sequence];
    }

    public int matches(long pattern, int k) {
        if (!sought.read(pattern) || !mayErr(k)) {
            return NONE;
        }
        findAlike();
        return finds.within(k);
    }

    public int match(long pattern, int k, int i) {
        if (!sought.read(pattern) || !mayErr(k)) {
            return NONE;
        }
        findAlike();
        int place = finds.numbered(i, k);
        if (place == NONE) {
            return NONE;
        }
        int sequence = places.sequenceAt(place);
        int end = place - places.starts[sequence];
        return 10000 * sequence + 10 * end + finds.errors[place];
    }

    private boolean draftHasEnd() {
        for (int k = 0; k < drafted; k++) {
            if (draft[k] == END) {
                return true;
            }
        }
        return false;
    }

    private void takeTried() {
        Image before = taken;
        taken = tried;
        tried = before;
        places.readFrom(taken);
        drafted = 0;
    }

    private boolean hasRow(int k) {
        return k >= 0 && k < taken.size;
    }

    private static boolean mayErr(int k) {
        return k >= 0 && k <= MOST_ERRORS;
    }

    /** Rows lie in the order of suffixes, finds in that of places: so all are found, then counted. */
    private void findExact() {
        finds.clear(taken.size);
        taken.search(sought);
        for (int row = taken.low; row < taken.high; row++) {
            finds.errors[places.ofRow(taken, row)] = 0;
        }
    }

    /** End e of a sequence is told by the place of its start plus e: each place is just one end. */
    private void findAlike() {
        finds.clear(taken.size);
        sought.restart();
        int row = places.rowOf(0);
        for (int place = 0; place < taken.size; place++) {
            if (place > 0) {
                row = places.ahead[row];
                sought.goOver(taken.symbols[row]);
            }
            finds.errors[place] = sought.distance();
        }
    }

    private static int codeAt(long word, int b) {
        return (int) (word >>> (8 * b)) & 255;
    }

    private static long codeInByte(int symbol, int b) {
        return (long) codeOf(symbol) << (8 * b);
    }

    private static int symbolOf(int code) {
        if (code == CODE_END) {
            return END;
        }
        if (code == CODE_BAR) {
            return BAR;
        }
        return code >= CODE_A && code <= CODE_Z ? LETTER_A + code - CODE_A : NONE;
    }

    private static int codeOf(int symbol) {
        if (symbol == END) {
            return CODE_END;
        }
        return symbol == BAR ? CODE_BAR : CODE_A + symbol - LETTER_A;
    }

    /** The image of a text (size 0: of none). Its row k is that of suffix k. */
    private static final class Image {
        final int[] symbols = new int[MOST_SYMBOLS];
        int size;

        /** For each symbol the first row whose suffix begins with it, or would. */
        final int[] firsts = new int[SYMBOLS];
        /** For each row that of the suffix which begins one place before. */
        final int[] back = new int[MOST_SYMBOLS];

        /** The rows of the last search: from low on and before high. */
        int low;
        int high;

        void copyFrom(int[] list, int length) {
            System.arraycopy(list, 0, symbols, 0, length);
            size = length;
            link();
        }

        void makeFromText(int[] text, int length) {
            symbols[0] = END;
            size = 1;
            int endRow = 0;
            for (int place = length - 1; place >= 0; place--) {
                endRow = putBefore(text[place], endRow);
            }
            link();
        }

        /**
         * Makes the image that of its text with a symbol put before it. The other suffixes keep
         * their order, so only the row of the new one has to be found: behind all that begin with
         * a lesser symbol, and behind those with the same one whose rest comes before the old text.
         */
        private int putBefore(int symbol, int endRow) {
            symbols[endRow] = symbol;
            int row = 1 + lesserThan(symbol) + among(symbol, endRow);
            System.arraycopy(symbols, row, symbols, row + 1, size - row);
            symbols[row] = END;
            size++;
            return row;
        }

        private int lesserThan(int symbol) {
            int lesser = 0;
            for (int k = 0; k < size; k++) {
                if (symbols[k] < symbol) {
                    lesser++;
                }
            }
            return lesser;
        }

        int among(int symbol, int i) {
            int found = 0;
            for (int k = 0; k < i; k++) {
                if (symbols[k] == symbol) {
                    found++;
                }
            }
            return found;
        }

        /** Suffixes with the same first symbol are in the order of their rests: so back never crosses. */
        private void link() {
            int row = 0;
            for (int symbol = 0; symbol < SYMBOLS; symbol++) {
                firsts[symbol] = row;
                for (int k = 0; k < size; k++) {
                    if (symbols[k] == symbol) {
                        back[k] = row;
                        row++;
                    }
                }
            }
        }

        /**
         * One $, and going back from the suffix $ meets it only after every other row: a round
         * that closes earlier leaves rows over that belong to no suffix of the same text.
         */
        boolean isOfText() {
            if (among(END, size) != 1) {
                return false;
            }
            int row = 0;
            for (int met = 1; met < size; met++) {
                if (symbols[row] == END) {
                    return false;
                }
                row = back[row];
            }
            return true;
        }

        void search(Pattern pattern) {
            low = 0;
            high = size;
            for (int j = pattern.size - 1; j >= 0; j--) {
                int letter = pattern.letters[j];
                low = firsts[letter] + among(letter, low);
                high = firsts[letter] + among(letter, high);
            }
        }
    }

    /** Where the rows of an image are in its text, and where its sequences begin. */
    private static final class Places {
        final int step;
        /** For each row that of the suffix which begins one place behind. */
        final int[] ahead = new int[MOST_SYMBOLS];
        /** The place of each row if it is a multiple of step, else NONE. */
        final int[] kept = new int[MOST_SYMBOLS];
        /** The row of each place that is a multiple of step, by the place divided by step. */
        final int[] keptRows = new int[MOST_SYMBOLS];

        /** One start more than there are sequences: where the next one would begin. */
        final int[] starts = new int[MOST_SYMBOLS + 1];
        int sequences;

        Places(int step) {
            this.step = step;
        }

        void readFrom(Image image) {
            int row = 0;
            for (int place = image.size - 1; place >= 0; place--) {
                boolean keep = place % step == 0;
                kept[row] = keep ? place : NONE;
                if (keep) {
                    keptRows[place / step] = row;
                }
                ahead[image.back[row]] = row;
                row = image.back[row];
            }
            findStarts(image);
        }

        private void findStarts(Image image) {
            starts[0] = 0;
            sequences = 1;
            int row = keptRows[0];
            for (int place = 1; place < image.size; place++) {
                row = ahead[row];
                if (image.symbols[row] == BAR) {
                    starts[sequences] = place;
                    sequences++;
                }
            }
            starts[sequences] = image.size;
        }

        /** Goes back to a row whose place is kept: step - 1 times at most, as place 0 is kept too. */
        int ofRow(Image image, int row) {
            int at = row;
            int steps = 0;
            while (steps < step && kept[at] == NONE) {
                at = image.back[at];
                steps++;
            }
            return kept[at] + steps;
        }

        int rowOf(int place) {
            int row = keptRows[place / step];
            for (int left = place % step; left > 0; left--) {
                row = ahead[row];
            }
            return row;
        }

        int lettersOf(int sequence) {
            if (sequence < 0 || sequence >= sequences) {
                return NONE;
            }
            return starts[sequence + 1] - 1 - starts[sequence];
        }

        /** The place of a | counts to the sequence before it: it is that one's last end. */
        int sequenceAt(int place) {
            int sequence = 0;
            while (sequence < sequences - 1 && starts[sequence + 1] <= place) {
                sequence++;
            }
            return sequence;
        }
    }

    /** The pattern of a call, and how far what has been gone over is from it. */
    private static final class Pattern {
        final int[] letters = new int[BYTES];
        int size;

        /** At j the least distance of the first j letters from a list that ends where one is. */
        private final int[] distances = new int[BYTES + 1];

        /** False if the word is no pattern. */
        boolean read(long word) {
            size = 0;
            for (int b = 0; b < BYTES; b++) {
                int code = codeAt(word, b);
                if (code != 0) {
                    int symbol = symbolOf(code);
                    // A byte 0 below leaves size behind b.
                    if (symbol < LETTER_A || size != b) {
                        return false;
                    }
                    letters[size] = symbol;
                    size++;
                }
            }
            return size > 0;
        }

        void restart() {
            for (int j = 0; j <= size; j++) {
                distances[j] = j;
            }
        }

        /** No list of letters crosses a |: behind it there is the empty list alone. */
        void goOver(int symbol) {
            if (symbol == BAR) {
                restart();
                return;
            }
            int diagonal = distances[0];
            for (int j = 1; j <= size; j++) {
                int changed = diagonal + (letters[j - 1] == symbol ? 0 : 1);
                int dropped = Math.min(distances[j], distances[j - 1]) + 1;
                diagonal = distances[j];
                distances[j] = Math.min(changed, dropped);
            }
        }

        int distance() {
            return distances[size];
        }
    }

    /** For each place of the text the errors of what was found there. */
    private static final class Finds {
        private static final int NOTHING = MOST_ERRORS + 1;

        final int[] errors = new int[MOST_SYMBOLS];
        private int size;

        void clear(int places) {
            size = places;
            Arrays.fill(errors, NOTHING);
        }

        int within(int k) {
            int found = 0;
            for (int place = 0; place < size; place++) {
                if (errors[place] <= k) {
                    found++;
                }
            }
            return found;
        }

        /** The place of find i among those with at most k errors, or NONE. */
        int numbered(int i, int k) {
            int found = 0;
            for (int place = 0; place < size; place++) {
                if (errors[place] <= k) {
                    if (found == i) {
                        return place;
                    }
                    found++;
                }
            }
            return NONE;
        }
    }
}
