import java.util.Arrays;
import java.util.NoSuchElementException;

/** Rows in which each number stands twice, as far apart as it says; the document's words stand in capitals. */
public final class TwinRows {
    public static final int NONE = -1;

    private static final int MOST_CELLS = 18;
    private static final int MOST_PAIRS = 9;
    private static final int LONGEST = 15;
    private static final int MOST_TAPE = 340;
    private static final int MOST_TEXT = 300;
    private static final int MOST_ACTS = 8;
    private static final int MOST_DEEDS = 60;
    private static final int MOST_EXTENDED = 7;
    private static final int MOST_MADE = 60;
    private static final int IMAGES = 2;

    /** PLAIN of ORDER 9 has the most: all FRAMES without PINS were counted once, and a PIN only takes away. */
    private static final int MOST_FILLINGS = 2656;

    private static final int PLAIN = 0;
    private static final int HOOKED = 1;
    private static final int WIDE = 2;
    private static final int OPEN = 3;

    private static final int FAULT_TOKEN = 1;
    private static final int FAULT_NUMBER = 2;
    private static final int FAULT_TAKEN = 3;
    private static final int FAULT_TENTH = 4;

    private final byte[] tape = new byte[MOST_TAPE];
    private int tapeLength = 0;
    private final Reader reader = new Reader();
    private int latestFault = 0;

    private final Frame frame = new Frame();
    private final Frame before = new Frame();
    private final History history = new History();
    private final Frame[] images = new Frame[IMAGES];
    private final Draws draws = new Draws();

    private final Fillings fillings = new Fillings(MOST_FILLINGS);
    private final Frame extendedFrame = new Frame();
    private final Fillings extendedFillings = new Fillings(0);
    private final Look look = new Look();
    private final int[] told = new int[MOST_CELLS + 1];

    public TwinRows() {
    }

    public int feed(int a, int b, int c, int d, int e) {
        if (tapeLength + 20 > MOST_TAPE) {
            return NONE;
        }
        feedNumber(a);
        feedNumber(b);
        feedNumber(c);
        feedNumber(d);
        feedNumber(e);
        return tapeLength;
    }

    private void feedNumber(int number) {
        for (int shift = 24; shift >= 0 && tapeLength < MOST_TAPE; shift -= 8) {
            tape[tapeLength] = (byte) (number >>> shift);
            tapeLength++;
        }
    }

    public boolean end(int n) {
        if (n < 0 || n > tapeLength) {
            return false;
        }
        tapeLength = n;
        return true;
    }

    public int frame() {
        int length = tapeLength;
        tapeLength = 0;
        int rows = reader.read(tape, length);
        latestFault = reader.fault;
        if (reader.fault == 0) {
            becomes(reader.draft);
        }
        return rows;
    }

    public int fault() {
        return latestFault;
    }

    public int kind(int kind, int order) {
        if (kind < PLAIN || kind > OPEN || order < 1 || order > mostOrder(kind)) {
            return NONE;
        }
        before.copy(frame);
        int pairs = (1 << order) - 1;
        switch (kind) {
            case HOOKED:
                frame.begin(2 * order + 1, bit(2 * order), pairs);
                break;
            case WIDE:
                frame.begin(2 * order, 0, pairs << 1);
                break;
            case OPEN:
                frame.begin(2 * order + 1, bit(order + 1), pairs);
                break;
            default:
                frame.begin(2 * order, 0, pairs);
                break;
        }
        acted();
        return frame.cells;
    }

    private static int mostOrder(int kind) {
        return kind == HOOKED || kind == OPEN ? MOST_PAIRS - 1 : MOST_PAIRS;
    }

    public int now(int what) {
        switch (what) {
            case 0:
                return frame.cells;
            case 1:
                return frame.holes;
            case 2:
                return frame.pairs;
            case 3:
                return frame.pinnedPairs();
            case 4:
                return frame.isEven() ? 1 : 0;
            case 5:
                return history.size;
            case 6:
                return tapeLength;
            default:
                return NONE;
        }
    }

    public int pinned(int d) {
        return frame.hasPair(d) ? frame.pins[d] : NONE;
    }

    public int ways() {
        return counted().count;
    }

    public int row(int rank) throws NoSuchElementException {
        Fillings all = counted();
        if (!all.hasRank(rank)) {
            throw new NoSuchElementException();
        }
        all.tell(rank, told);
        look.take(told, frame.cells);
        return look.numberAt(1);
    }

    public int at(int place) {
        return look.numberAt(place);
    }

    public int first(int d) {
        return look.firstOf(d);
    }

    public int rank() {
        int length = tapeLength;
        tapeLength = 0;
        if (length != frame.cells) {
            return NONE;
        }
        for (int place = 1; place <= length && place <= MOST_CELLS; place++) {
            told[place] = tape[place - 1] & 255;
        }
        return lookAtTold();
    }

    public int behind() {
        int places = look.places;
        if (places != frame.cells) {
            return NONE;
        }
        for (int place = 1; place <= places && place <= MOST_CELLS; place++) {
            told[place] = look.numberAt(places + 1 - place);
        }
        return lookAtTold();
    }

    private int lookAtTold() {
        int rank = counted().rankOf(told);
        if (rank != NONE) {
            look.take(told, frame.cells);
        }
        return rank;
    }

    public int standing(int d, int place) {
        return frame.hasPair(d) && frame.hasPlace(place) ? counted().firsts[d][place] : NONE;
    }

    public int may(int d) {
        return frame.hasPair(d) ? counted().placesOf(d) : NONE;
    }

    public int sure() {
        Fillings all = counted();
        int pairs = 0;
        for (int d = 1; d <= LONGEST; d++) {
            if (frame.hasPair(d) && all.isSure(d)) {
                pairs |= bit(d);
            }
        }
        return pairs;
    }

    public int extended(int n, int hole) {
        if (n < 1 || n > MOST_EXTENDED || hole < 1 || hole > 2 * n + 1) {
            return NONE;
        }
        extendedFrame.begin(2 * n + 1, bit(hole), (1 << n) - 1);
        extendedFillings.countAll(extendedFrame);
        return extendedFillings.count;
    }

    public int made(int order) {
        if (order != 6 && (order < 8 || order > MOST_MADE) || order % 4 == 3) {
            return NONE;
        }
        look.make(order);
        return look.places;
    }

    public int third(int x, int y) {
        return look.thirdOf(x, y);
    }

    public int hole(int place, boolean is) {
        before.copy(frame);
        int holes = frame.setHole(place, is);
        if (holes != NONE) {
            acted();
        }
        return holes;
    }

    public int pair(int d, boolean is) {
        before.copy(frame);
        int pairs = frame.setPair(d, is);
        if (pairs != NONE) {
            acted();
        }
        return pairs;
    }

    public int pin(int d, int place) {
        before.copy(frame);
        int answer = frame.setPin(d, place);
        if (answer == 0) {
            acted();
        }
        return answer;
    }

    public int drawn(int n, int seed) {
        if (n < 1 || n > MOST_DEEDS) {
            return NONE;
        }
        before.copy(frame);
        draws.seed = seed;
        int done = 0;
        for (int deed = 0; deed < n; deed++) {
            if (draws.doDeed(frame)) {
                done++;
            }
        }
        if (done > 0) {
            acted();
        }
        return done;
    }

    public int undo() {
        if (history.size == 0) {
            return NONE;
        }
        history.takeLatest(frame);
        fillings.isCounted = false;
        return history.size;
    }

    public boolean image(int k) {
        if (k < 0 || k >= IMAGES) {
            return false;
        }
        if (images[k] == null) {
            images[k] = new Frame();
        }
        images[k].copy(frame);
        return true;
    }

    public boolean restore(int k) {
        if (k < 0 || k >= IMAGES || images[k] == null) {
            return false;
        }
        becomes(images[k]);
        return true;
    }

    /** A FRAME that comes whole can't be undone, nor what was done ahead of it. */
    private void becomes(Frame other) {
        frame.copy(other);
        history.size = 0;
        fillings.isCounted = false;
    }

    private void acted() {
        history.keep(before);
        fillings.isCounted = false;
    }

    private Fillings counted() {
        if (!fillings.isCounted) {
            fillings.countAll(frame);
        }
        return fillings;
    }

    private static int bit(int number) {
        return 1 << (number - 1);
    }

    /** CELLS, HOLES, PAIRS and where they are PINNED, and what can be done to them. */
    private static final class Frame {
        private int cells = 0;
        private int holes = 0;
        private int pairs = 0;
        private final int[] pins = new int[LONGEST + 1];

        void begin(int newCells, int newHoles, int newPairs) {
            cells = newCells;
            holes = newHoles;
            pairs = newPairs;
            Arrays.fill(pins, 0);
        }

        void copy(Frame other) {
            cells = other.cells;
            holes = other.holes;
            pairs = other.pairs;
            System.arraycopy(other.pins, 0, pins, 0, pins.length);
        }

        boolean hasPlace(int place) {
            return place >= 1 && place <= cells;
        }

        boolean hasHole(int place) {
            return hasPlace(place) && (holes & bit(place)) != 0;
        }

        boolean hasPair(int d) {
            return d >= 1 && d <= LONGEST && (pairs & bit(d)) != 0;
        }

        int placesToFill() {
            return ((1 << cells) - 1) & ~holes;
        }

        int pinnedPairs() {
            int bits = 0;
            for (int d = 1; d <= LONGEST; d++) {
                if (pins[d] != 0) {
                    bits |= bit(d);
                }
            }
            return bits;
        }

        /** The places of all that is PINNED but for one DISTANCE (0: of all). */
        int pinnedPlaces(int except) {
            int bits = 0;
            for (int d = 1; d <= LONGEST; d++) {
                if (pins[d] != 0 && d != except) {
                    bits |= bit(pins[d]) | bit(pins[d] + d);
                }
            }
            return bits;
        }

        boolean isEven() {
            int places = placesToFill();
            return Integer.bitCount(places) == 2 * Integer.bitCount(pairs)
                && (sumOf(places) - sumOf(pairs)) % 2 == 0;
        }

        private static int sumOf(int bits) {
            int sum = 0;
            for (int number = 1; number <= MOST_CELLS; number++) {
                if ((bits & bit(number)) != 0) {
                    sum += number;
                }
            }
            return sum;
        }

        /** The DISTANCE of a PAIR by its index among them, from 0 on; NONE: there are not so many. */
        int distanceOf(int index) {
            int ahead = 0;
            for (int d = 1; d <= LONGEST; d++) {
                if (hasPair(d)) {
                    if (ahead == index) {
                        return d;
                    }
                    ahead++;
                }
            }
            return NONE;
        }

        int setHole(int place, boolean is) {
            if (!hasPlace(place) || hasHole(place) == is || (pinnedPlaces(0) & bit(place)) != 0) {
                return NONE;
            }
            holes ^= bit(place);
            return Integer.bitCount(holes);
        }

        int setPair(int d, boolean is) {
            if (d < 1 || d > LONGEST || hasPair(d) == is) {
                return NONE;
            }
            if (is && Integer.bitCount(pairs) >= MOST_PAIRS) {
                return NONE;
            }
            pairs ^= bit(d);
            pins[d] = 0;
            return Integer.bitCount(pairs);
        }

        int setPin(int d, int place) {
            if (!hasPair(d) || place != 0 && !(hasPlace(place) && hasPlace(place + d))) {
                return NONE;
            }
            if (pins[d] == place) {
                return 1;
            }
            if (place != 0 && ((holes | pinnedPlaces(d)) & (bit(place) | bit(place + d))) != 0) {
                return 2;
            }
            pins[d] = place;
            return 0;
        }
    }

    /** The FRAMES ahead of the latest acts, in a ring of which the oldest gives way. */
    private static final class History {
        private final Frame[] ring = new Frame[MOST_ACTS];
        private int latest = 0;
        private int size = 0;

        void keep(Frame frame) {
            latest = (latest + 1) % MOST_ACTS;
            if (ring[latest] == null) {
                ring[latest] = new Frame();
            }
            ring[latest].copy(frame);
            size = Math.min(size + 1, MOST_ACTS);
        }

        void takeLatest(Frame frame) {
            if (size == 0 || ring[latest] == null) {
                return;
            }
            frame.copy(ring[latest]);
            latest = (latest + MOST_ACTS - 1) % MOST_ACTS;
            size--;
        }
    }

    /** Draws by a seed, and the DEEDS that they choose. */
    private static final class Draws {
        private int seed = 0;

        private int draw(int n) {
            seed = seed * 1103515245 + 12345;
            return n < 1 ? 0 : (seed >>> 8) % n;
        }

        boolean doDeed(Frame frame) {
            int choice = draw(4);
            if (frame.cells == 0) {
                return false;
            }
            if (choice == 0) {
                int place = draw(frame.cells) + 1;
                return frame.setHole(place, !frame.hasHole(place)) != NONE;
            }
            if (choice == 1) {
                int d = draw(LONGEST) + 1;
                return frame.setPair(d, !frame.hasPair(d)) != NONE;
            }
            return doPin(frame);
        }

        private boolean doPin(Frame frame) {
            int pairs = Integer.bitCount(frame.pairs);
            if (pairs == 0) {
                return false;
            }
            int d = frame.distanceOf(draw(pairs));
            int place = draw(frame.cells) + 1;
            boolean isPinned = frame.hasPair(d) && frame.pins[d] != 0;
            return frame.setPin(d, isPinned ? 0 : place) == 0;
        }
    }

    /** Reads the text of a FRAME into a draft, up to its first FAULT. */
    private static final class Reader {
        private static final int END = 0;
        private static final int WORD = 1;
        private static final int NUMBER = 2;
        private static final int SIGN = 3;
        private static final int NO_TOKEN = 4;

        private final Frame draft = new Frame();
        private final byte[] text = new byte[MOST_TAPE];
        private int length = 0;
        private int token = END;
        private int begin = 0;
        private int next = 0;
        private int value = 0;
        private int distance = 0;
        private int fault = 0;

        /** How many ROWS; -1 less the place of a FAULT. */
        int read(byte[] source, int bytes) {
            length = Math.min(bytes, Math.min(source.length, MOST_TAPE));
            System.arraycopy(source, 0, text, 0, length);
            next = 0;
            fault = 0;
            draft.begin(0, 0, 0);
            advance();
            int rows = 0;
            while (token != END && rows < MOST_TAPE) {
                if (!readRow(rows == 0) || !endsRow()) {
                    return -1 - begin;
                }
                rows++;
                advance();
            }
            return rows;
        }

        /** Each of the parts of a ROW goes on to the TOKEN behind it. */
        private boolean readRow(boolean isFirst) {
            if (isFirst) {
                return isWord("cells") ? readCells() : fails(FAULT_TOKEN);
            }
            if (isWord("hole")) {
                return readHole();
            }
            if (!isWord("pair")) {
                return fails(FAULT_TOKEN);
            }
            return readPair() && (!isWord("at") || readPin());
        }

        private boolean readCells() {
            if (!readNumber(MOST_CELLS)) {
                return false;
            }
            draft.begin(value, 0, 0);
            advance();
            return true;
        }

        private boolean readHole() {
            if (!readNumber(draft.cells)) {
                return false;
            }
            if (draft.setHole(value, true) == NONE) {
                return fails(FAULT_TAKEN);
            }
            advance();
            return true;
        }

        private boolean readPair() {
            if (Integer.bitCount(draft.pairs) >= MOST_PAIRS) {
                return fails(FAULT_TENTH);
            }
            if (!readNumber(LONGEST)) {
                return false;
            }
            distance = value;
            if (draft.setPair(distance, true) == NONE) {
                return fails(FAULT_TAKEN);
            }
            advance();
            return true;
        }

        private boolean readPin() {
            if (!readNumber(draft.cells - distance)) {
                return false;
            }
            if (draft.setPin(distance, value) != 0) {
                return fails(FAULT_TAKEN);
            }
            advance();
            return true;
        }

        private boolean readNumber(int most) {
            advance();
            if (token != NUMBER) {
                return fails(FAULT_TOKEN);
            }
            return value >= 1 && value <= most || fails(FAULT_NUMBER);
        }

        private boolean endsRow() {
            return token == SIGN || fails(FAULT_TOKEN);
        }

        private boolean fails(int kindOfFault) {
            fault = kindOfFault;
            return false;
        }

        private boolean isWord(String word) {
            if (token != WORD || next - begin != word.length()) {
                return false;
            }
            for (int i = 0; i < word.length(); i++) {
                if (text[begin + i] != word.charAt(i)) {
                    return false;
                }
            }
            return true;
        }

        private void advance() {
            while (next < length && (text[next] == ' ' || text[next] == '\n')) {
                next++;
            }
            begin = next;
            if (length > MOST_TEXT && begin >= MOST_TEXT) {
                begin = MOST_TEXT;
                token = NO_TOKEN;
            } else if (begin >= length) {
                token = END;
            } else if (text[begin] == ';') {
                token = SIGN;
                next++;
            } else {
                advanceRun();
            }
        }

        private void advanceRun() {
            int letters = 0;
            int digits = 0;
            value = 0;
            while (next < length) {
                int sign = text[next];
                if (sign >= '0' && sign <= '9') {
                    digits++;
                    value = value * 10 + sign - '0';
                } else if (sign >= 'a' && sign <= 'z') {
                    letters++;
                } else {
                    break;
                }
                next++;
            }
            if (letters > 0 && digits == 0) {
                token = WORD;
            } else if (letters == 0 && (digits == 1 || digits == 2)) {
                token = NUMBER;
            } else {
                token = NO_TOKEN;
            }
        }
    }

    /**
     * All FILLINGS of a FRAME. Each is kept as a number of as many decimal digits as there are CELLS, place by place
     * which of the PAIRS (1 to 9 in order of DISTANCES; 0: a HOLE) stands there: so FILLINGS in order are numbers in
     * order, and a RANK is found by halving.
     */
    private static final class Fillings {
        private final long[] numbers;
        private final long[] weights = new long[MOST_CELLS + 1];
        private final int[] digits = new int[LONGEST + 1];
        private final int[] distances = new int[MOST_PAIRS + 1];
        private final int[][] firsts = new int[LONGEST + 1][MOST_CELLS + 1];
        private boolean isCounted = false;
        private int cells = 0;
        private int count = 0;

        /** With less room than FILLINGS the rest are counted, but not kept. */
        Fillings(int room) {
            numbers = new long[Math.max(room, 0)];
        }

        void countAll(Frame frame) {
            isCounted = true;
            count = 0;
            for (int d = 1; d <= LONGEST; d++) {
                Arrays.fill(firsts[d], 0);
            }
            nameDigits(frame);
            weighPlaces(frame);
            if (!frame.isEven()) {
                return;
            }
            fill(1, frame.placesToFill() & ~frame.pinnedPlaces(0), frame.pairs & ~frame.pinnedPairs());
            for (int d = 1; d <= LONGEST; d++) {
                if (frame.pins[d] != 0) {
                    stand(d, frame.pins[d], 0);
                }
            }
        }

        private void nameDigits(Frame frame) {
            int digit = 0;
            for (int d = 1; d <= LONGEST; d++) {
                digits[d] = 0;
                if (frame.hasPair(d) && digit < MOST_PAIRS) {
                    digit++;
                    digits[d] = digit;
                    distances[digit] = d;
                }
            }
        }

        private void weighPlaces(Frame frame) {
            cells = Math.min(frame.cells, MOST_CELLS);
            long weight = 1;
            for (int place = cells; place >= 1; place--) {
                weights[place] = weight;
                weight *= 10;
            }
        }

        /**
         * Fills the first free place from one on with each PAIR that fits; a level deeper begins at a later place, and
         * behind CELLS there is none. It goes by bits, and tells which PAIR stood only where FILLINGS were found: most
         * ways end without one.
         */
        private void fill(int from, int free, int unused) {
            int place = from;
            while (place <= cells && (free & bit(place)) == 0) {
                place++;
            }
            if (place > cells) {
                keep();
                return;
            }
            if (unused >>> (cells - place) != 0) {
                return; // a PAIR that is longer than what is left can't stand any more
            }
            int rest = free & ~bit(place);
            int fitting = unused & (rest >>> place);
            for (int tried = 0; tried < MOST_PAIRS && fitting != 0; tried++) {
                int least = fitting & -fitting;
                int countBefore = count;
                fill(place + 1, rest & ~(least << place), unused & ~least);
                if (count > countBefore) {
                    stand(Integer.bitCount(least - 1) + 1, place, countBefore);
                }
                fitting &= ~least;
            }
        }

        private void keep() {
            if (count < numbers.length) {
                numbers[count] = 0;
            }
            count++;
        }

        /** In all FILLINGS from a RANK on that were found so far a PAIR stands first at a place. */
        private void stand(int d, int place, int fromRank) {
            if (d < 1 || d > LONGEST || place < 1 || place + d > cells) {
                return;
            }
            firsts[d][place] += count - fromRank;
            long weight = digits[d] * (weights[place] + weights[place + d]);
            for (int rank = fromRank; rank < count && rank < numbers.length; rank++) {
                numbers[rank] += weight;
            }
        }

        boolean hasRank(int rank) {
            return rank >= 0 && rank < count && rank < numbers.length;
        }

        /** Tells the FILLING of a RANK place by place, from index 1 on. */
        void tell(int rank, int[] row) {
            if (!hasRank(rank) || cells >= row.length) {
                return;
            }
            long number = numbers[rank];
            for (int place = cells; place >= 1; place--) {
                int digit = (int) (number % 10);
                row[place] = digit >= 1 && digit <= MOST_PAIRS ? distances[digit] : 0;
                number /= 10;
            }
        }

        int rankOf(int[] row) {
            if (cells >= row.length) {
                return NONE;
            }
            long number = 0;
            for (int place = 1; place <= cells; place++) {
                int d = row[place];
                if (d < 0 || d > LONGEST || d != 0 && digits[d] == 0) {
                    return NONE;
                }
                number = number * 10 + (d == 0 ? 0 : digits[d]);
            }
            return rankOfNumber(number);
        }

        private int rankOfNumber(long number) {
            int low = 0;
            int high = Math.min(count, numbers.length) - 1;
            for (int halving = 0; halving <= MOST_FILLINGS && low <= high; halving++) {
                int middle = (low + high) / 2;
                if (numbers[middle] == number) {
                    return middle;
                }
                if (numbers[middle] < number) {
                    low = middle + 1;
                } else {
                    high = middle - 1;
                }
            }
            return NONE;
        }

        int placesOf(int d) {
            int bits = 0;
            for (int place = 1; place <= cells; place++) {
                if (firsts[d][place] > 0) {
                    bits |= bit(place);
                }
            }
            return bits;
        }

        boolean isSure(int d) {
            return Integer.bitCount(placesOf(d)) == 1;
        }
    }

    /** The row that was looked at last. */
    private static final class Look {
        private final int[] numbers = new int[2 * MOST_MADE + 2];
        private final int[] firsts = new int[MOST_MADE + 1];
        private int places = NONE;

        private void clear(int newPlaces) {
            Arrays.fill(numbers, 0);
            Arrays.fill(firsts, 0);
            places = Math.min(newPlaces, numbers.length - 1);
        }

        void take(int[] row, int newPlaces) {
            clear(Math.min(newPlaces, row.length - 1));
            for (int place = 1; place <= places; place++) {
                int d = row[place];
                numbers[place] = d;
                if (d >= 1 && d <= MOST_MADE && firsts[d] == 0) {
                    firsts[d] = place;
                }
            }
        }

        int numberAt(int place) {
            return place >= 1 && place <= places ? numbers[place] : NONE;
        }

        int firstOf(int d) {
            return d >= 1 && d <= MOST_MADE && firsts[d] != 0 ? firsts[d] : NONE;
        }

        void make(int order) {
            int m = order / 4;
            clear(order % 4 == 2 ? 2 * order + 1 : 2 * order);
            if (order % 4 == 0) {
                makeLeaving0(m);
            } else if (order % 4 == 1) {
                makeLeaving1(m);
            } else {
                makeLeaving2(m);
            }
        }

        private void makeLeaving0(int m) {
            nest(4 * m, 8 * m, 0, 2 * m - 1);
            twin(m, m + 1);
            nest(m + 2, 3 * m - 1, 0, m - 3);
            nest(0, 4 * m - 1, 1, m - 1);
            twin(2 * m + 1, 6 * m);
            twin(2 * m, 4 * m - 1);
        }

        private void makeLeaving1(int m) {
            nest(4 * m + 2, 8 * m + 2, 0, 2 * m - 1);
            nest(0, 4 * m + 1, 1, m);
            twin(2 * m + 1, 6 * m + 2);
            twin(2 * m + 2, 4 * m + 1);
            twin(m + 1, m + 2);
            nest(m + 2, 3 * m + 1, 1, m - 2);
        }

        private void makeLeaving2(int m) {
            nest(0, 4 * m + 2, 1, 2 * m);
            twin(2 * m + 1, 6 * m + 2);
            twin(4 * m + 2, 6 * m + 3);
            twin(4 * m + 3, 8 * m + 5);
            nest(4 * m + 3, 8 * m + 4, 1, m - 1);
            nest(5 * m + 2, 7 * m + 3, 1, m - 1);
            twin(7 * m + 3, 7 * m + 4);
        }

        /** The twins (left + r, right - r), each within the one ahead of it. */
        private void nest(int left, int right, int from, int to) {
            for (int r = from; r <= to; r++) {
                twin(left + r, right - r);
            }
        }

        private void twin(int left, int right) {
            int d = right - left;
            if (left < 1 || right > places || d < 1 || d > MOST_MADE) {
                return;
            }
            numbers[left] = d;
            numbers[right] = d;
            firsts[d] = left;
        }

        int thirdOf(int x, int y) {
            int n = ringOrder();
            if (n == NONE || x < 0 || x > 6 * n || y < 0 || y > 6 * n || x == y) {
                return NONE;
            }
            int ahead = thirdAlong(x, y, n);
            return ahead != NONE ? ahead : thirdAlong(y, x, n);
        }

        /** How many DISTANCES there are, if they are 1 to n at places that make TRIPLES; NONE: they are not. */
        private int ringOrder() {
            int taken = 0;
            int last = 0;
            int longest = 0;
            for (int place = 1; place <= places; place++) {
                if (numbers[place] != 0) {
                    taken++;
                    last = place;
                    longest = Math.max(longest, numbers[place]);
                }
            }
            // each number stands just twice: so many places are taken that the longest tells whether one is missing
            if (longest == 0 || longest > MOST_MADE || taken != 2 * longest) {
                return NONE;
            }
            boolean isWhole = last == taken;
            boolean isHooked = last == taken + 1 && numbers[taken] == 0;
            return isWhole || isHooked ? longest : NONE;
        }

        /** The THIRD, if x stands ahead of y among the three that a TRIPLE begins with 0; NONE: it does not. */
        private int thirdAlong(int x, int y, int n) {
            int points = 6 * n + 1;
            int step = Math.floorMod(y - x, points);
            for (int d = 1; d <= n && d <= MOST_MADE; d++) {
                int far = n + firsts[d] + d;
                if (step == d) {
                    return (x + far) % points;
                }
                if (step == far) {
                    return (x + d) % points;
                }
                if (step == far - d) {
                    return Math.floorMod(x - d, points);
                }
            }
            return NONE;
        }
    }
}
