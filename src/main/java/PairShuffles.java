import java.util.Arrays;

/**
 * Shuffles of a row of letters: ../shared/DOC.md tells what each call must do.
 *
 * A row is one int (two bits a letter, the length above them) and a table of codes is one, too, so that
 * states are copied by a few assignments and no call makes an object.
 */
public final class PairShuffles {
    public static final int INVALID_ARGUMENT = -1000001;
    public static final int NOT_POSSIBLE = -1000002;
    public static final int LIMIT_REACHED = -1000003;
    public static final int NOT_FOUND = -1000004;

    private static final int LETTERS = 4;
    private static final int PAIRS = 16;
    private static final int MOST_LETTERS = 10;
    private static final int MOST_KEPT = 8;
    private static final int MOST_PAST = 4;
    private static final int MOST_SIGNS = 60;
    private static final int MOST_DIGITS = 6;
    private static final int EMPTY_ROW = 0;
    private static final int LENGTH_SHIFT = 20;
    private static final int LAST_KIND = 3;
    private static final int LAST_MEASURE = 3;
    private static final int PAIR_TIMES = 0;
    private static final int RUNS = 1;
    private static final int SAME_PLACES = 2;
    private static final int[] KINSHIP_ORDER = {2, 1, 3, 0};

    private final State now = new State();
    private final State[] past = new State[MOST_PAST];
    private int pastStates;
    private final Text text = new Text();
    private final Trial trial = new Trial();
    private final Ways ways = new Ways();
    private final Measure measured = new Measure();
    private final int[] pairCounts = new int[PAIRS];

    public PairShuffles() {
        for (int i = 0; i < past.length; i++) {
            past[i] = new State();
        }
    }

    // ---- the row

    public int append(int letter) {
        if (!within(letter, LETTERS - 1)) {
            return INVALID_ARGUMENT;
        }
        if (lengthOf(now.row) >= MOST_LETTERS) {
            return LIMIT_REACHED;
        }
        record();
        now.row = longer(now.row, letter);
        return lengthOf(now.row);
    }

    public int clear() {
        int length = lengthOf(now.row);
        record();
        now.row = EMPTY_ROW;
        return length;
    }

    public int code(int first, int second, int code) {
        if (!within(first, LETTERS - 1) || !within(second, LETTERS - 1) || !within(code, LETTERS - 1)) {
            return INVALID_ARGUMENT;
        }
        int before = codeIn(now.table, first, second);
        record();
        now.table = withCode(now.table, first, second, code);
        return before;
    }

    public int turn() {
        if (now.row == EMPTY_ROW) {
            return NOT_POSSIBLE;
        }
        record();
        now.row = turned(now.row);
        return letterOf(now.row, 0);
    }

    public int letterAt(int place) {
        if (place < 0) {
            return INVALID_ARGUMENT;
        }
        return place < lengthOf(now.row) ? letterOf(now.row, place) : NOT_FOUND;
    }

    public int codeOf(int first, int second) {
        if (!within(first, LETTERS - 1) || !within(second, LETTERS - 1)) {
            return INVALID_ARGUMENT;
        }
        return codeIn(now.table, first, second);
    }

    public int pairAt(int place, int what) {
        if (!within(place, PAIRS - 1) || !within(what, 1)) {
            return INVALID_ARGUMENT;
        }
        for (int pair = 0; pair < pairCounts.length; pair++) {
            pairCounts[pair] = pairsIn(now.row, pair / LETTERS, pair % LETTERS);
        }
        for (int pair = 0; pair < pairCounts.length; pair++) {
            if (pairsAheadOf(pair, pairCounts[pair]) == place) {
                return what == 0 ? pair : pairCounts[pair];
            }
        }
        return NOT_FOUND;
    }

    public int bias(int x, int y, int part) {
        if (!within(x, LETTERS - 1) || !within(y, LETTERS - 1) || !within(part, 1)) {
            return INVALID_ARGUMENT;
        }
        int below = lettersIn(now.row, x) * lettersIn(now.row, y);
        if (below == 0) {
            return NOT_FOUND;
        }
        int above = pairsIn(now.row, x, y) * lengthOf(now.row);
        int divisor = commonDivisor(above, below);
        if (divisor < 1) {
            return NOT_FOUND;
        }
        return (part == 0 ? above : below) / divisor;
    }

    // ---- shuffles

    public int shuffles(int kind) {
        if (!within(kind, LAST_KIND)) {
            return INVALID_ARGUMENT;
        }
        ways.open(now, kind);
        return ways.total();
    }

    public int placeOf(int kind) {
        if (!within(kind, LAST_KIND)) {
            return INVALID_ARGUMENT;
        }
        ways.open(now, kind);
        return ways.placeOfRow();
    }

    public int shuffleAt(int kind, int place, int letter) {
        if (!within(kind, LAST_KIND) || place < 0 || letter < 0) {
            return INVALID_ARGUMENT;
        }
        if (letter >= lengthOf(now.row)) {
            return NOT_FOUND;
        }
        ways.open(now, kind);
        return place < ways.total() ? letterOf(ways.rowAt(place), letter) : NOT_FOUND;
    }

    public int next(int kind) {
        return moveBy(kind, 1);
    }

    public int back(int kind) {
        return moveBy(kind, -1);
    }

    public int at(int kind, int place) {
        if (!within(kind, LAST_KIND) || place < 0) {
            return INVALID_ARGUMENT;
        }
        ways.open(now, kind);
        if (place >= ways.total()) {
            return NOT_POSSIBLE;
        }
        int before = now.row;
        record();
        now.row = ways.rowAt(place);
        return unlikePlaces(before, now.row);
    }

    // ---- measures

    public int measure(int measure, int x, int y) {
        if (!within(measure, LAST_MEASURE) || !within(x, LETTERS - 1) || !within(y, LETTERS - 1)) {
            return INVALID_ARGUMENT;
        }
        measured.set(measure, x, y, now);
        return measured.ofRow();
    }

    public int surprise(int kind, int measure, int x, int y, int what) {
        if (!within(kind, LAST_KIND) || !within(measure, LAST_MEASURE) || !within(x, LETTERS - 1)
                || !within(y, LETTERS - 1) || !within(what, 4)) {
            return INVALID_ARGUMENT;
        }
        measured.set(measure, x, y, now);
        ways.openMeasured(now, kind, measured);
        switch (what) {
            case 0:
                return ways.atLeast(measured.ofRow());
            case 1:
                return ways.least();
            case 2:
                return ways.greatest();
            case 3:
                return ways.sum();
            default:
                return ways.firstPlaceWith(ways.greatest());
        }
    }

    public int common(int one, int other) {
        if (!within(one, LAST_KIND) || !within(other, LAST_KIND)) {
            return INVALID_ARGUMENT;
        }
        ways.openBoth(now, one, other);
        return ways.total();
    }

    // ---- the book

    public int keep() {
        if (now.row == EMPTY_ROW) {
            return NOT_POSSIBLE;
        }
        if (now.kept >= MOST_KEPT) {
            return LIMIT_REACHED;
        }
        record();
        now.keepRow();
        return now.kept;
    }

    public int recall(int place) {
        if (place < 0) {
            return INVALID_ARGUMENT;
        }
        if (place >= now.kept) {
            return NOT_POSSIBLE;
        }
        record();
        now.row = now.keptRow(place);
        return lengthOf(now.row);
    }

    public int kinship(int place) {
        if (place < 0) {
            return INVALID_ARGUMENT;
        }
        if (place >= now.kept) {
            return NOT_FOUND;
        }
        int other = now.keptRow(place);
        for (int i = 0; i < KINSHIP_ORDER.length; i++) {
            if (isShuffle(KINSHIP_ORDER[i], other)) {
                return KINSHIP_ORDER[i];
            }
        }
        return NOT_FOUND;
    }

    public int count(int what) {
        switch (what) {
            case 0:
                return lengthOf(now.row);
            case 1:
                return unlikeLetters();
            case 2:
                return unlikePairs();
            case 3:
                measured.set(RUNS, 0, 0, now);
                return measured.ofRow();
            case 4:
                return lengthOf(now.row) / 2;
            case 5:
                return now.kept;
            case 6:
                return pastStates;
            case 7:
                return text.length;
            default:
                return INVALID_ARGUMENT;
        }
    }

    public int undo() {
        if (pastStates < 1 || pastStates > past.length) {
            return NOT_POSSIBLE;
        }
        pastStates--;
        now.become(past[pastStates]);
        return pastStates;
    }

    // ---- texts

    public int type(int character) {
        if (character < 32 || character > 126) {
            return INVALID_ARGUMENT;
        }
        if (text.length >= MOST_SIGNS) {
            return LIMIT_REACHED;
        }
        text.put(character);
        return text.length;
    }

    public int clearText() {
        int length = text.length;
        text.length = 0;
        return length;
    }

    public int fault(int what) {
        if (!within(what, 2)) {
            return INVALID_ARGUMENT;
        }
        trial.run(now, text, ways);
        if (trial.reason == Trial.NO_FAULT || (what == 2 && trial.reason == Trial.NO_SUCH_KIND)) {
            return NOT_FOUND;
        }
        if (what == 0) {
            return trial.position;
        }
        return what == 1 ? trial.reason : trial.cause;
    }

    public int play() {
        trial.run(now, text, ways);
        if (trial.reason != Trial.NO_FAULT) {
            return NOT_POSSIBLE;
        }
        record();
        now.become(trial.state);
        return trial.orders;
    }

    // ---- what the calls rest on

    private static boolean within(int value, int most) {
        return value >= 0 && value <= most;
    }

    private void record() {
        if (pastStates >= past.length) {
            dropOldest();
        }
        if (pastStates >= 0 && pastStates < past.length && past[pastStates] != null) {
            past[pastStates].become(now);
            pastStates++;
        }
    }

    /** The oldest state's object goes to the end, so that it is used again and no change makes a new one. */
    private void dropOldest() {
        if (past.length < 1) {
            return;
        }
        State oldest = past[0];
        for (int i = 1; i < past.length; i++) {
            past[i - 1] = past[i];
        }
        past[past.length - 1] = oldest;
        pastStates = past.length - 1;
    }

    private int moveBy(int kind, int steps) {
        if (!within(kind, LAST_KIND)) {
            return INVALID_ARGUMENT;
        }
        ways.open(now, kind);
        int place = ways.placeOfRow() + steps;
        if (place < 0 || place >= ways.total()) {
            return NOT_POSSIBLE;
        }
        record();
        now.row = ways.rowAt(place);
        return place;
    }

    private int pairsAheadOf(int pair, int often) {
        int ahead = 0;
        for (int other = 0; other < pairCounts.length; other++) {
            boolean asOften = pairCounts[other] == often;
            if (pairCounts[other] > often || (asOften && other < pair)) {
                ahead++;
            }
        }
        return ahead;
    }

    private int unlikeLetters() {
        int unlike = 0;
        for (int letter = 0; letter < LETTERS; letter++) {
            if (lettersIn(now.row, letter) > 0) {
                unlike++;
            }
        }
        return unlike;
    }

    private int unlikePairs() {
        int unlike = 0;
        for (int pair = 0; pair < PAIRS; pair++) {
            if (pairsIn(now.row, pair / LETTERS, pair % LETTERS) > 0) {
                unlike++;
            }
        }
        return unlike;
    }

    private boolean isShuffle(int kind, int other) {
        if (!sameLetters(now.row, other)) {
            return false;
        }
        if (keepsPairs(kind) && !samePairs(now.row, other)) {
            return false;
        }
        if (kind == 2 && letterOf(now.row, 0) != letterOf(other, 0)) {
            return false;
        }
        return !keepsCodes(kind) || sameCodes(now.table, now.row, other);
    }

    private static boolean keepsPairs(int kind) {
        return kind == 1 || kind == 2;
    }

    private static boolean keepsCodes(int kind) {
        return kind == 3;
    }

    private static int commonDivisor(int one, int other) {
        int divisor = one;
        int rest = other;
        // Each turn at least halves the product of both, so that 64 are more than enough.
        for (int i = 0; i < 64 && rest != 0; i++) {
            int left = divisor % rest;
            divisor = rest;
            rest = left;
        }
        return divisor;
    }

    // ---- rows and tables as numbers

    private static int lengthOf(int row) {
        return row >>> LENGTH_SHIFT;
    }

    private static int letterOf(int row, int place) {
        return (row >>> (2 * place)) & 3;
    }

    private static int longer(int row, int letter) {
        int length = lengthOf(row);
        if (length >= MOST_LETTERS) {
            return row;
        }
        return (row + (1 << LENGTH_SHIFT)) | ((letter & 3) << (2 * length));
    }

    private static int turned(int row) {
        int result = EMPTY_ROW;
        for (int place = lengthOf(row) - 1; place >= 0; place--) {
            result = longer(result, letterOf(row, place));
        }
        return result;
    }

    private static int lettersIn(int row, int letter) {
        int number = 0;
        for (int place = 0; place < lengthOf(row); place++) {
            if (letterOf(row, place) == letter) {
                number++;
            }
        }
        return number;
    }

    private static int pairsIn(int row, int x, int y) {
        int number = 0;
        for (int place = 1; place < lengthOf(row); place++) {
            if (letterOf(row, place - 1) == x && letterOf(row, place) == y) {
                number++;
            }
        }
        return number;
    }

    private static int unlikePlaces(int row, int other) {
        int unlike = 0;
        for (int place = 0; place < lengthOf(row); place++) {
            if (letterOf(row, place) != letterOf(other, place)) {
                unlike++;
            }
        }
        return unlike;
    }

    private static boolean sameLetters(int row, int other) {
        for (int letter = 0; letter < LETTERS; letter++) {
            if (lettersIn(row, letter) != lettersIn(other, letter)) {
                return false;
            }
        }
        return true;
    }

    private static boolean samePairs(int row, int other) {
        for (int pair = 0; pair < PAIRS; pair++) {
            int x = pair / LETTERS;
            int y = pair % LETTERS;
            if (pairsIn(row, x, y) != pairsIn(other, x, y)) {
                return false;
            }
        }
        return true;
    }

    private static boolean sameCodes(int table, int row, int other) {
        for (int place = 1; place < lengthOf(row); place += 2) {
            if (wordCode(table, row, place) != wordCode(table, other, place)) {
                return false;
            }
        }
        return true;
    }

    /** The code of the word whose second letter is at this place. */
    private static int wordCode(int table, int row, int place) {
        return codeIn(table, letterOf(row, place - 1), letterOf(row, place));
    }

    private static int codeIn(int table, int first, int second) {
        return (table >>> (2 * (LETTERS * first + second))) & 3;
    }

    private static int withCode(int table, int first, int second, int code) {
        int shift = 2 * (LETTERS * first + second);
        return (table & ~(3 << shift)) | (code << shift);
    }

    /** What a change records and undo brings back: all but the text. */
    private static final class State {
        int row = EMPTY_ROW;
        int table;
        int kept;
        private final int[] book = new int[MOST_KEPT];

        State() {
            for (int pair = 0; pair < PAIRS; pair++) {
                int first = pair / LETTERS;
                int second = pair % LETTERS;
                table = withCode(table, first, second, (first + second) % 4);
            }
        }

        void become(State other) {
            if (other == null) {
                return;
            }
            row = other.row;
            table = other.table;
            kept = other.kept;
            System.arraycopy(other.book, 0, book, 0, MOST_KEPT);
        }

        void keepRow() {
            if (kept >= 0 && kept < book.length) {
                book[kept] = row;
                kept++;
            }
        }

        int keptRow(int place) {
            return place >= 0 && place < book.length ? book[place] : EMPTY_ROW;
        }
    }

    /** A measure as the sum of what each letter adds to it, given only its place and the letter before it. */
    private static final class Measure {
        private int which;
        private int x;
        private int y;
        private int row;
        private int table;

        void set(int which, int x, int y, State state) {
            this.which = which;
            this.x = x;
            this.y = y;
            this.row = state.row;
            this.table = state.table;
        }

        int gain(int place, int last, int letter) {
            boolean more;
            switch (which) {
                case PAIR_TIMES:
                    more = place > 0 && last == x && letter == y;
                    break;
                case RUNS:
                    more = place == 0 || last != letter;
                    break;
                case SAME_PLACES:
                    more = letterOf(row, place) == letter;
                    break;
                default:
                    more = place % 2 == 1 && codeIn(table, last, letter) == x;
                    break;
            }
            return more ? 1 : 0;
        }

        int ofRow() {
            int number = 0;
            int last = 0;
            for (int place = 0; place < lengthOf(row); place++) {
                int letter = letterOf(row, place);
                number += gain(place, last, letter);
                last = letter;
            }
            return number;
        }
    }

    /**
     * In how many ways the beginning of a shuffle can be continued to a whole one, by what the rest adds to
     * a measure.
     *
     * The continuations hang on nothing but what is left to be put (letters, or pairs where the pairs are
     * kept) and the last letter, so that they are found once for each of these and not once for each
     * shuffle. What is left is told as one number, a digit for each letter or pair.
     *
     * Letters and pairs together tell the first letter: it alone is once less often the second one of a
     * pair than it is in the row. So the kinds 1 and 2 have the same shuffles, and where pairs are kept the
     * first letter stays, the letters are kept by themselves, and the pairs left tell the last letter, too.
     */
    private static final class Ways {
        private static final int NONE = -1;
        // Of 10 letters of 4 sorts at most 4 * 4 * 3 * 3 parts can be left, with 4 last letters each; of 9
        // pairs at most 512. The start has an entry of its own.
        private static final int START = 576;
        private static final int ENTRIES = 577;
        private static final int VALUES = MOST_LETTERS + 1;

        private final int[] stock = new int[PAIRS];
        private final int[] weight = new int[PAIRS];
        private final int[] known = new int[ENTRIES];
        private final int[] found = new int[ENTRIES * VALUES];
        private Measure measure;
        private int values;
        private int row;
        private int rowCodes;
        private int table;
        private int length;
        private int full;
        private boolean pairs;
        private boolean codes;

        void open(State state, int kind) {
            measure = null;
            pairs = keepsPairs(kind);
            codes = keepsCodes(kind);
            prepare(state);
            solve(this, full, 0, 0);
        }

        void openBoth(State state, int one, int other) {
            measure = null;
            pairs = keepsPairs(one) || keepsPairs(other);
            codes = keepsCodes(one) || keepsCodes(other);
            prepare(state);
            solve(this, full, 0, 0);
        }

        void openMeasured(State state, int kind, Measure by) {
            measure = by;
            pairs = keepsPairs(kind);
            codes = keepsCodes(kind);
            prepare(state);
            solve(this, full, 0, 0);
        }

        private void prepare(State state) {
            row = state.row;
            table = state.table;
            length = lengthOf(row);
            values = measure == null ? 1 : Math.min(length + 1, VALUES);
            rowCodes = EMPTY_ROW;
            for (int place = 1; place < length; place += 2) {
                rowCodes = longer(rowCodes, wordCode(table, row, place));
            }
            countStock();
            weighStock();
            Arrays.fill(known, 0);
        }

        private void countStock() {
            Arrays.fill(stock, 0);
            for (int place = pairs ? 1 : 0; place < length; place++) {
                int letter = letterOf(row, place);
                int item = pairs ? letterOf(row, place - 1) * LETTERS + letter : letter;
                if (item >= 0 && item < stock.length) {
                    stock[item]++;
                }
            }
        }

        private void weighStock() {
            int unit = 1;
            full = 0;
            for (int item = 0; item < stock.length && item < weight.length; item++) {
                weight[item] = unit;
                full += unit * stock[item];
                unit *= stock[item] + 1;
            }
        }

        private static void solve(Ways ways, int left, int last, int place) {
            int entry = ways.entryOf(left, last, place);
            if (place > ways.length || ways.isKnown(entry)) {
                return;
            }
            ways.begin(entry);
            if (place == ways.length) {
                ways.add(entry, 0, 1);
                return;
            }
            for (int letter = 0; letter < LETTERS; letter++) {
                int then = ways.leftAfter(left, last, place, letter);
                if (then != NONE) {
                    solve(ways, then, letter, place + 1);
                    ways.join(entry, ways.entryOf(then, letter, place + 1), ways.gain(place, last, letter));
                }
            }
        }

        private int entryOf(int left, int last, int place) {
            if (place == 0) {
                return START;
            }
            return pairs ? left : left * LETTERS + last;
        }

        /** What is left when the letter has been put; NONE if it can't stand there. */
        private int leftAfter(int left, int last, int place, int letter) {
            if (pairs && place == 0) {
                return letter == letterOf(row, 0) ? left : NONE;
            }
            if (codes && place % 2 == 1 && codeIn(table, last, letter) != letterOf(rowCodes, place / 2)) {
                return NONE;
            }
            return leftWithout(left, pairs ? last * LETTERS + letter : letter);
        }

        private int leftWithout(int left, int item) {
            if (item < 0 || item >= weight.length || item >= stock.length || left < 0) {
                return NONE;
            }
            int unit = weight[item];
            int digits = stock[item] + 1;
            if (unit < 1 || digits < 1) {
                return NONE;
            }
            return left / unit % digits > 0 ? left - unit : NONE;
        }

        private int gain(int place, int last, int letter) {
            return measure == null ? 0 : measure.gain(place, last, letter);
        }

        private boolean isKnown(int entry) {
            return entry < 0 || entry >= ENTRIES || known[entry] != 0;
        }

        private void begin(int entry) {
            if (entry < 0 || entry >= ENTRIES) {
                return;
            }
            known[entry] = 1;
            int start = entry * VALUES;
            for (int index = start; index < start + VALUES && index < found.length; index++) {
                found[index] = 0;
            }
        }

        private void add(int entry, int value, int number) {
            int index = entry * VALUES + value;
            if (value >= 0 && value < VALUES && index >= 0 && index < found.length) {
                found[index] += number;
            }
        }

        private int number(int entry, int value) {
            int index = entry * VALUES + value;
            boolean there = value >= 0 && value < VALUES && index >= 0 && index < found.length;
            return there ? found[index] : 0;
        }

        private void join(int entry, int rest, int gain) {
            for (int value = 0; value + gain < values; value++) {
                add(entry, value + gain, number(rest, value));
            }
        }

        int total() {
            return allOf(START);
        }

        private int allOf(int entry) {
            int all = 0;
            for (int value = 0; value < values; value++) {
                all += number(entry, value);
            }
            return all;
        }

        int atLeast(int bound) {
            int all = 0;
            for (int value = bound; value < values; value++) {
                all += number(START, value);
            }
            return all;
        }

        int least() {
            for (int value = 0; value < values; value++) {
                if (number(START, value) > 0) {
                    return value;
                }
            }
            return 0;
        }

        int greatest() {
            for (int value = values - 1; value > 0; value--) {
                if (number(START, value) > 0) {
                    return value;
                }
            }
            return 0;
        }

        int sum() {
            int sum = 0;
            for (int value = 0; value < values; value++) {
                sum += value * number(START, value);
            }
            return sum;
        }

        int placeOfRow() {
            int ahead = 0;
            int left = full;
            int last = 0;
            for (int place = 0; place < length; place++) {
                int letter = letterOf(row, place);
                for (int lower = 0; lower < letter; lower++) {
                    ahead += continued(left, last, place, lower);
                }
                left = leftAfter(left, last, place, letter);
                last = letter;
            }
            return ahead;
        }

        /** How many shuffles go on with this letter. */
        private int continued(int left, int last, int place, int letter) {
            int then = leftAfter(left, last, place, letter);
            return then == NONE ? 0 : allOf(entryOf(then, letter, place + 1));
        }

        int rowAt(int wanted) {
            int result = EMPTY_ROW;
            int ahead = wanted;
            int left = full;
            int last = 0;
            for (int place = 0; place < length; place++) {
                int letter = 0;
                for (; letter < LETTERS - 1; letter++) {
                    int here = continued(left, last, place, letter);
                    if (ahead < here) {
                        break;
                    }
                    ahead -= here;
                }
                result = longer(result, letter);
                left = leftAfter(left, last, place, letter);
                last = letter;
            }
            return result;
        }

        int firstPlaceWith(int wanted) {
            int ahead = 0;
            int rest = wanted;
            int left = full;
            int last = 0;
            for (int place = 0; place < length; place++) {
                int letter = 0;
                for (; letter < LETTERS - 1 && !canGain(left, last, place, letter, rest); letter++) {
                    ahead += continued(left, last, place, letter);
                }
                rest -= gain(place, last, letter);
                left = leftAfter(left, last, place, letter);
                last = letter;
            }
            return ahead;
        }

        private boolean canGain(int left, int last, int place, int letter, int wanted) {
            int then = leftAfter(left, last, place, letter);
            int rest = wanted - gain(place, last, letter);
            return then != NONE && number(entryOf(then, letter, place + 1), rest) > 0;
        }
    }

    /** The signs that have been typed, and what was read of the order at one of them. */
    private static final class Text {
        static final int NO_WORD = 0;
        static final int ROW = 1;
        static final int TURN = 2;
        static final int NEXT = 3;
        static final int PLACE = 4;
        static final int KEEP = 5;
        private static final int END = -1;

        private final int[] signs = new int[MOST_SIGNS];
        int length;
        int word;
        int kind;
        int number;
        int row;
        int reached;
        boolean broken;

        void put(int sign) {
            if (length >= 0 && length < signs.length) {
                signs[length] = sign;
                length++;
            }
        }

        /** Reads an order; where it breaks off, reached stays at the sign that does not fit. */
        void read(int start) {
            kind = 0;
            number = 0;
            row = EMPTY_ROW;
            reached = start;
            while (reached < length && isBetween('a', 'z')) {
                reached++;
            }
            word = wordBetween(start, reached);
            broken = word == NO_WORD;
            switch (word) {
                case ROW:
                    readSign(' ');
                    readRow();
                    break;
                case NEXT:
                    readSign(' ');
                    kind = readDigit();
                    break;
                case PLACE:
                    readSign(' ');
                    kind = readDigit();
                    readSign(' ');
                    readNumber();
                    break;
                default:
                    break;
            }
            readSign(';');
        }

        private int signAt(int place) {
            return place >= 0 && place < length && place < signs.length ? signs[place] : END;
        }

        private boolean isBetween(int lowest, int highest) {
            int sign = signAt(reached);
            return sign >= lowest && sign <= highest;
        }

        private int wordBetween(int start, int end) {
            if (spells("row", start, end)) {
                return ROW;
            }
            if (spells("turn", start, end)) {
                return TURN;
            }
            if (spells("next", start, end)) {
                return NEXT;
            }
            if (spells("place", start, end)) {
                return PLACE;
            }
            return spells("keep", start, end) ? KEEP : NO_WORD;
        }

        private boolean spells(String name, int start, int end) {
            if (end - start != name.length()) {
                return false;
            }
            for (int i = 0; i < name.length(); i++) {
                if (signAt(start + i) != name.charAt(i)) {
                    return false;
                }
            }
            return true;
        }

        private void readSign(int sign) {
            if (!broken && isBetween(sign, sign)) {
                reached++;
            } else {
                broken = true;
            }
        }

        private int readDigit() {
            if (broken || !isBetween('0', '9')) {
                broken = true;
                return 0;
            }
            int digit = signAt(reached) - '0';
            reached++;
            return digit;
        }

        private void readNumber() {
            number = readDigit();
            for (int i = 1; i < MOST_DIGITS && !broken && isBetween('0', '9'); i++) {
                number = 10 * number + readDigit();
            }
        }

        private void readRow() {
            broken = broken || !isBetween('a', 'd');
            for (int i = 0; i < MOST_LETTERS && !broken && isBetween('a', 'd'); i++) {
                row = longer(row, signAt(reached) - 'a');
                reached++;
            }
        }
    }

    /** The orders of a text, done one after another in a state of its own as far as they are possible. */
    private static final class Trial {
        static final int NO_FAULT = 0;
        static final int NO_SUCH_KIND = 2;
        private static final int NOT_OF_THE_FORM = 1;
        private static final int OTHERWISE = 3;
        private static final int NO_CAUSE = 0;
        private static final int NO_SHUFFLE = 1;
        private static final int BOOK_FULL = 2;
        private static final int ROW_EMPTY = 3;

        final State state = new State();
        int orders;
        int position;
        int reason;
        int cause;

        void run(State from, Text text, Ways ways) {
            state.become(from);
            orders = 0;
            position = 0;
            reason = NO_FAULT;
            cause = NO_CAUSE;
            // Every order that is done has a sign at least, so that the text is at its end by then.
            for (int i = 0; i < MOST_SIGNS && position < text.length; i++) {
                text.read(position);
                if (text.broken) {
                    reason = NOT_OF_THE_FORM;
                    cause = text.word == Text.NO_WORD ? 0 : text.reached - position;
                    return;
                }
                if (text.kind > LAST_KIND) {
                    reason = NO_SUCH_KIND;
                    return;
                }
                cause = carryOut(text, ways);
                if (cause != NO_CAUSE) {
                    reason = OTHERWISE;
                    return;
                }
                orders++;
                position = text.reached;
            }
        }

        private int carryOut(Text order, Ways ways) {
            switch (order.word) {
                case Text.ROW:
                    state.row = order.row;
                    return NO_CAUSE;
                case Text.TURN:
                    state.row = turned(state.row);
                    return state.row == EMPTY_ROW ? ROW_EMPTY : NO_CAUSE;
                case Text.KEEP:
                    return putIntoBook();
                default:
                    break;
            }
            ways.open(state, order.kind);
            int place = order.word == Text.NEXT ? ways.placeOfRow() + 1 : order.number;
            if (place >= ways.total()) {
                return NO_SHUFFLE;
            }
            state.row = ways.rowAt(place);
            return NO_CAUSE;
        }

        private int putIntoBook() {
            if (state.kept >= MOST_KEPT) {
                return BOOK_FULL;
            }
            if (state.row == EMPTY_ROW) {
                return ROW_EMPTY;
            }
            state.keepRow();
            return NO_CAUSE;
        }
    }
}
