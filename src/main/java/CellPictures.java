import java.util.Arrays;

/**
 * A house of picture puzzles: texts read, lines ruled, values tried, solutions searched,
 * puzzles drawn from marks and mended. The words in capitals are the document's terms.
 *
 * All rows are made in the constructors and used again: no call makes an object.
 */
public final class CellPictures {
    public static final int NONE = -1;

    /** The answer of what FAILS, and of a SEARCH that is SPENT. */
    private static final int FAILS = -2;

    private static final int MOST_SIDE = 12;
    private static final int MOST_COLOURS = 3;
    private static final int MOST_RUNS = 12;
    private static final int MOST_LINES = 2 * MOST_SIDE;
    private static final int MOST_CELLS = MOST_SIDE * MOST_SIDE;
    private static final int MOST_BYTES = 900;
    private static final int BYTES_OF_A_FEED = 20;

    private static final int MOST_SOLUTIONS = 50;
    private static final int MOST_NODES = 1000;
    private static final int NODES_OF_A_JUDGEMENT = 400;

    /** Above the 576 VALUES that can leave, of which each round but the last takes one. */
    private static final int MOST_ROUNDS = 1000;

    private final Tape tape = new Tape();
    private final Clues clues = new Clues();
    private final Clues draft = new Clues();
    private final TextReader reader = new TextReader(tape, draft);
    private final Grid givens = new Grid();
    private final Grid marks = new Grid();
    private final LineRule lineRule = new LineRule(clues);
    private final Solver solver = new Solver(clues, lineRule);
    private final Sets sets = new Sets(clues);
    private final Sets handSets = new Sets(clues);
    private final Found found = new Found();
    private final Found judged = new Found();
    private boolean hasSets = false;
    private int latestFault = 0;

    public CellPictures() {
    }

    public int feed(int a, int b, int c, int d, int e) {
        if (tape.size + BYTES_OF_A_FEED > MOST_BYTES) {
            return NONE;
        }
        tape.append(a);
        tape.append(b);
        tape.append(c);
        tape.append(d);
        tape.append(e);
        return tape.size;
    }

    public int end(int n) {
        if (n < 0 || n > tape.size) {
            return NONE;
        }
        tape.size = n;
        return n;
    }

    public int load() {
        boolean isRead = reader.readsAll();
        tape.size = 0;
        latestFault = reader.kind;
        if (!isRead) {
            return -1 - reader.place;
        }
        clues.copy(draft);
        marks.clear();
        beginPuzzle();
        return clues.total;
    }

    public int fault() {
        return latestFault;
    }

    public boolean blank(int w, int h, int c) {
        if (!isSize(w, MOST_SIDE) || !isSize(h, MOST_SIDE) || !isSize(c, MOST_COLOURS)) {
            return false;
        }
        clues.begin(w, h, c);
        marks.clear();
        beginPuzzle();
        return true;
    }

    public int about(int what) {
        if (!hasPuzzle()) {
            return NONE;
        }
        switch (what) {
            case 0: return clues.width;
            case 1: return clues.height;
            case 2: return clues.colours;
            case 3: return clues.lines();
            case 4: return clues.total;
            case 5: return givens.told;
            case 6: return marks.told;
            case 7: return hasSets ? sets.countSingles() : 0;
            default: return NONE;
        }
    }

    public int run(int line, int k, int what) {
        if (!isLine(line)) {
            return NONE;
        }
        if (k == NONE) {
            return clues.counts[line];
        }
        if (k < 0 || k >= clues.counts[line]) {
            return NONE;
        }
        switch (what) {
            case 0: return clues.lengthOf(line, k);
            case 1: return clues.colourOf(line, k);
            default: return NONE;
        }
    }

    public boolean give(int x, int y, int v) {
        if (!isCell(x, y) || !isValueOrNone(v)) {
            return false;
        }
        givens.put(x, y, v);
        found.forgetSolutions();
        return true;
    }

    public int given(int x, int y) {
        return isCell(x, y) ? givens.at(x, y) : NONE;
    }

    public boolean fresh() {
        if (!hasPuzzle()) {
            return false;
        }
        sets.become(givens);
        hasSets = true;
        return true;
    }

    public int rule(int line) {
        if (!isLine(line) || !hasSets) {
            return NONE;
        }
        long kept = lineRule.keptOf(line, sets.lines[line]);
        return kept == 0 ? FAILS : Integer.bitCount(sets.narrow(line, kept));
    }

    public long ways(int line) {
        if (!isLine(line) || !hasSets) {
            return NONE;
        }
        return lineRule.countWays(line, sets.lines[line]);
    }

    public int rest() {
        if (!hasSets && !fresh()) {
            return NONE;
        }
        return solver.settle(sets, clues.allLines());
    }

    public int tries() {
        int uses = rest();
        return uses < 0 ? uses : solver.sift(sets);
    }

    public int set(int x, int y) {
        return hasSets && isCell(x, y) ? sets.valuesAt(x, y) : NONE;
    }

    public int search(int n, int nodes) {
        if (!hasPuzzle() || !isSize(n, MOST_SOLUTIONS) || nodes < 0 || nodes > MOST_NODES) {
            return NONE;
        }
        solver.seek(givens, n, nodes, found);
        return found.isSpent ? FAILS : found.count;
    }

    public int nodes() {
        return found.nodes;
    }

    public int solution(int k, int x, int y) {
        if (!isCell(x, y) || !found.isKept(k)) {
            return NONE;
        }
        return found.kept(k).at(x, y);
    }

    public int level() {
        return hasPuzzle() ? solver.judge(givens, judged) : NONE;
    }

    public boolean mark(int x, int y, int v) {
        if (!isCell(x, y) || !isValueOrNone(v)) {
            return false;
        }
        marks.put(x, y, v);
        return true;
    }

    public int marked(int x, int y) {
        return isCell(x, y) ? marks.at(x, y) : NONE;
    }

    public int done() {
        if (!hasPuzzle()) {
            return NONE;
        }
        draftFromMarks();
        return draft.hasRunsOf(clues) && areGivensMarked() ? 1 : 0;
    }

    public int wrong() {
        if (!hasPuzzle() || !found.isKept(0)) {
            return NONE;
        }
        int unlike = 0;
        for (int y = 0; y < clues.height; y++) {
            for (int x = 0; x < clues.width; x++) {
                int v = marks.at(x, y);
                if (v != NONE && v != found.first.at(x, y)) {
                    unlike++;
                }
            }
        }
        return unlike;
    }

    public int hint() {
        if (!hasPuzzle()) {
            return NONE;
        }
        handSets.fill();
        handSets.tell(marks);
        handSets.tell(givens);
        for (int line = 0; line < clues.lines(); line++) {
            long kept = lineRule.keptOf(line, handSets.lines[line]);
            if (kept == 0) {
                return -2 - line;
            }
            int told = hintOf(line, kept);
            if (told != NONE) {
                return told;
            }
        }
        return NONE;
    }

    public int draw() {
        if (!hasPuzzle()) {
            return NONE;
        }
        draftFromMarks();
        clues.copy(draft);
        beginPuzzle();
        return clues.total;
    }

    public int mend() {
        if (done() != 1) {
            return NONE;
        }
        int told = 0;
        // Each round but the last gives a cell that was none of the GIVENS.
        for (int round = 0; round <= MOST_CELLS; round++) {
            solver.seek(givens, 2, NODES_OF_A_JUDGEMENT, judged);
            if (judged.isSpent) {
                return FAILS;
            }
            if (judged.count < 2) {
                return told;
            }
            giveFirstUnlike();
            told++;
        }
        return told;
    }

    private boolean hasPuzzle() {
        return clues.width > 0;
    }

    private boolean isCell(int x, int y) {
        return x >= 0 && x < clues.width && y >= 0 && y < clues.height;
    }

    private boolean isLine(int line) {
        return line >= 0 && line < clues.lines();
    }

    private boolean isValueOrNone(int v) {
        return v >= NONE && v <= clues.colours;
    }

    private static boolean isSize(int size, int most) {
        return size >= 1 && size <= most;
    }

    /** MARKS are the caller's matter: draw() keeps them. */
    private void beginPuzzle() {
        givens.clear();
        hasSets = false;
        found.forgetAll();
    }

    private void draftFromMarks() {
        draft.begin(clues.width, clues.height, clues.colours);
        for (int line = 0; line < draft.lines(); line++) {
            draft.readLine(line, marks);
        }
    }

    private boolean areGivensMarked() {
        for (int y = 0; y < clues.height; y++) {
            for (int x = 0; x < clues.width; x++) {
                int v = givens.at(x, y);
                if (v != NONE && v != marks.valueAt(x, y)) {
                    return false;
                }
            }
        }
        return true;
    }

    private int hintOf(int line, long kept) {
        for (int p = 0; p < clues.cellsOf(line); p++) {
            int x = clues.xOf(line, p);
            int y = clues.yOf(line, p);
            int values = Sets.valuesIn(kept, p);
            boolean isFree = givens.at(x, y) == NONE && marks.at(x, y) == NONE;
            if (isFree && Integer.bitCount(values) == 1) {
                return 10000 * line + 1000 * Sets.leastOf(values) + MOST_SIDE * y + x;
            }
        }
        return NONE;
    }

    private void giveFirstUnlike() {
        for (int y = 0; y < clues.height; y++) {
            for (int x = 0; x < clues.width; x++) {
                if (judged.first.at(x, y) != judged.second.at(x, y)) {
                    give(x, y, marks.valueAt(x, y));
                    return;
                }
            }
        }
    }

    /** The bytes of a text. */
    private static final class Tape {
        private final byte[] bytes = new byte[MOST_BYTES];
        private int size = 0;

        private void append(int four) {
            for (int shift = 24; shift >= 0 && size < MOST_BYTES; shift -= 8) {
                bytes[size] = (byte) (four >>> shift);
                size++;
            }
        }

        /** A byte, or NONE behind the last: no TOKEN begins with either it or a byte above 127. */
        private int byteAt(int place) {
            return place >= 0 && place < size ? bytes[place] : NONE;
        }
    }

    /** A VALUE, or NONE, for each cell. */
    private static final class Grid {
        private final int[] values = new int[MOST_CELLS];
        private int told = 0;

        private Grid() {
            Arrays.fill(values, NONE);
        }

        private void clear() {
            Arrays.fill(values, NONE);
            told = 0;
        }

        private int at(int x, int y) {
            return values[MOST_SIDE * y + x];
        }

        /** A cell without a VALUE counts as blank. */
        private int valueAt(int x, int y) {
            return Math.max(0, at(x, y));
        }

        private void put(int x, int y, int v) {
            if (at(x, y) != NONE) {
                told--;
            }
            if (v != NONE) {
                told++;
            }
            values[MOST_SIDE * y + x] = v;
        }
    }

    /** The size of a PUZZLE and the RUNS of its LINES; a width of 0 is no PUZZLE. */
    private static final class Clues {
        private final int[] counts = new int[MOST_LINES];
        private final int[] lengths = new int[MOST_LINES * MOST_RUNS];
        private final int[] hues = new int[MOST_LINES * MOST_RUNS];
        private int width = 0;
        private int height = 0;
        private int colours = 0;
        private int total = 0;

        private void begin(int w, int h, int c) {
            width = w;
            height = h;
            colours = c;
            total = 0;
            Arrays.fill(counts, 0);
        }

        private void copy(Clues other) {
            width = other.width;
            height = other.height;
            colours = other.colours;
            total = other.total;
            System.arraycopy(other.counts, 0, counts, 0, counts.length);
            System.arraycopy(other.lengths, 0, lengths, 0, lengths.length);
            System.arraycopy(other.hues, 0, hues, 0, hues.length);
        }

        private int lines() {
            return width + height;
        }

        /** All LINES as bits of a number. */
        private int allLines() {
            return (1 << lines()) - 1;
        }

        private int cellsOf(int line) {
            return line < height ? width : height;
        }

        private int xOf(int line, int p) {
            return line < height ? p : line - height;
        }

        private int yOf(int line, int p) {
            return line < height ? line : p;
        }

        private int lengthOf(int line, int k) {
            return lengths[MOST_RUNS * line + k];
        }

        private int colourOf(int line, int k) {
            return hues[MOST_RUNS * line + k];
        }

        private void add(int line, int length, int colour) {
            if (counts[line] >= MOST_RUNS) {
                return;
            }
            int slot = MOST_RUNS * line + counts[line];
            lengths[slot] = length;
            hues[slot] = colour;
            counts[line]++;
            total++;
        }

        /** Two RUNS of one colour would be one stretch without a blank between them. */
        private boolean needsGapAhead(int line, int k) {
            int slot = MOST_RUNS * line + k;
            return k > 0 && k < counts[line] && hues[slot - 1] == hues[slot];
        }

        private boolean fitsItsCells(int line) {
            int least = 0;
            for (int k = 0; k < counts[line]; k++) {
                least += lengthOf(line, k) + (needsGapAhead(line, k) ? 1 : 0);
            }
            return least <= cellsOf(line);
        }

        private boolean isBalanced() {
            for (int colour = 1; colour <= colours; colour++) {
                if (cellsTold(0, height, colour) != cellsTold(height, lines(), colour)) {
                    return false;
                }
            }
            return true;
        }

        private int cellsTold(int from, int to, int colour) {
            int sum = 0;
            for (int line = from; line < to; line++) {
                for (int k = 0; k < counts[line]; k++) {
                    sum += colourOf(line, k) == colour ? lengthOf(line, k) : 0;
                }
            }
            return sum;
        }

        private void readLine(int line, Grid grid) {
            int length = 0;
            int colour = 0;
            for (int p = 0; p < cellsOf(line); p++) {
                int v = grid.valueAt(xOf(line, p), yOf(line, p));
                if (v != colour) {
                    addStretch(line, length, colour);
                    length = 0;
                    colour = v;
                }
                length++;
            }
            addStretch(line, length, colour);
        }

        private void addStretch(int line, int length, int colour) {
            if (colour != 0) {
                add(line, length, colour);
            }
        }

        /** For two of one size. */
        private boolean hasRunsOf(Clues other) {
            for (int line = 0; line < lines(); line++) {
                if (!isLineLike(line, other)) {
                    return false;
                }
            }
            return true;
        }

        private boolean isLineLike(int line, Clues other) {
            if (counts[line] != other.counts[line]) {
                return false;
            }
            for (int k = 0; k < counts[line]; k++) {
                if (lengthOf(line, k) != other.lengthOf(line, k)
                        || colourOf(line, k) != other.colourOf(line, k)) {
                    return false;
                }
            }
            return true;
        }
    }

    /** Reads the TAPE into a draft, up to the first FAULT. */
    private static final class TextReader {
        private static final int AT_END = 0;
        private static final int NUMBER = 1;
        private static final int LETTER = 2;
        private static final int SEMICOLON = 3;

        private static final int BAD_CUT = 1;
        private static final int BAD_TOKEN = 2;
        private static final int BAD_SIZE = 3;
        private static final int BAD_RUN = 4;
        private static final int TOO_MANY_RUNS = 5;
        private static final int BAD_LINE = 6;
        private static final int BAD_SUMS = 7;

        private final Tape tape;
        private final Clues draft;
        private int kind = 0;
        private int place = 0;
        /** The TOKEN at hand: its sort, its first byte's place, what it tells, where it ends. */
        private int token = AT_END;
        private int start = 0;
        private int value = 0;
        private int next = 0;

        private TextReader(Tape tape, Clues draft) {
            this.tape = tape;
            this.draft = draft;
        }

        /** False with a FAULT; its kind is 0 without one. */
        private boolean readsAll() {
            kind = 0;
            place = 0;
            if (!cutsClean()) {
                return false;
            }
            next = 0;
            advance();
            if (!readsHead()) {
                return false;
            }
            for (int line = 0; line < draft.lines(); line++) {
                if (!readsLine(line)) {
                    return false;
                }
            }
            if (token != AT_END) {
                return refuse(BAD_TOKEN);
            }
            return draft.isBalanced() || refuse(BAD_SUMS);
        }

        private boolean refuse(int faultKind) {
            kind = faultKind;
            place = start;
            return false;
        }

        private static boolean isDigit(int b) {
            return b >= '0' && b <= '9';
        }

        private static boolean isLetter(int b) {
            return b >= 'a' && b <= 'c';
        }

        private static boolean isSpace(int b) {
            return b == 32 || b == 10;
        }

        private int endOfDigits(int from) {
            int to = from;
            while (to < tape.size && isDigit(tape.byteAt(to))) {
                to++;
            }
            return to;
        }

        private boolean cutsClean() {
            int digits = 0;
            for (int at = 0; at < tape.size; at++) {
                int b = tape.byteAt(at);
                digits = isDigit(b) ? digits + 1 : 0;
                boolean isKnown = isDigit(b) || isLetter(b) || isSpace(b) || b == ';';
                if (!isKnown || digits > 2) {
                    start = isKnown ? at - 2 : at;
                    return refuse(BAD_CUT);
                }
            }
            return true;
        }

        /** The cut was clean: what is no digit and no letter is a semicolon. */
        private void advance() {
            start = next;
            while (start < tape.size && isSpace(tape.byteAt(start))) {
                start++;
            }
            int b = tape.byteAt(start);
            value = 0;
            next = start + 1;
            if (start >= tape.size) {
                token = AT_END;
                next = start;
            } else if (isDigit(b)) {
                token = NUMBER;
                next = endOfDigits(start);
                for (int at = start; at < next; at++) {
                    value = 10 * value + tape.byteAt(at) - '0';
                }
            } else if (isLetter(b)) {
                token = LETTER;
                value = b - 'a' + 1;
            } else {
                token = SEMICOLON;
            }
        }

        private boolean readsHead() {
            int w = sizeRead(MOST_SIDE);
            int h = w == NONE ? NONE : sizeRead(MOST_SIDE);
            int c = h == NONE ? NONE : sizeRead(MOST_COLOURS);
            if (c == NONE) {
                return false;
            }
            if (token != SEMICOLON) {
                return refuse(BAD_TOKEN);
            }
            advance();
            draft.begin(w, h, c);
            return true;
        }

        /** NONE with a FAULT. */
        private int sizeRead(int most) {
            if (token != NUMBER) {
                refuse(BAD_TOKEN);
                return NONE;
            }
            if (!isSize(value, most)) {
                refuse(BAD_SIZE);
                return NONE;
            }
            int size = value;
            advance();
            return size;
        }

        private boolean readsLine(int line) {
            // One RUN more than there may be, so that it is refused as such.
            for (int k = 0; k <= MOST_RUNS && token == NUMBER; k++) {
                if (!readsRun(line, k)) {
                    return false;
                }
            }
            if (token != SEMICOLON) {
                return refuse(BAD_TOKEN);
            }
            if (!draft.fitsItsCells(line)) {
                return refuse(BAD_LINE);
            }
            advance();
            return true;
        }

        private boolean readsRun(int line, int k) {
            if (value == 0) {
                return refuse(BAD_RUN);
            }
            if (k >= MOST_RUNS) {
                return refuse(TOO_MANY_RUNS);
            }
            int length = value;
            int colour = 1;
            advance();
            if (token == LETTER) {
                if (value > draft.colours) {
                    return refuse(BAD_RUN);
                }
                colour = value;
                advance();
            }
            draft.add(line, length, colour);
            return true;
        }
    }

    /**
     * The SETS of all cells, held twice: by rows and by columns, under their LINES' numbers.
     * In a LINE's number bit 12 v + p tells whether its cell p may have the VALUE v, so that
     * the LINE RULE works on all cells of one VALUE at once.
     */
    private static final class Sets {
        /** The bits of cell 0 for all four VALUES. */
        private static final long ONE_CELL = 0x001001001001L;

        private final Clues clues;
        private final long[] lines = new long[MOST_LINES];

        private Sets(Clues clues) {
            this.clues = clues;
        }

        private void become(Grid givens) {
            fill();
            tell(givens);
        }

        private void fill() {
            for (int line = 0; line < clues.lines(); line++) {
                long cells = (1L << clues.cellsOf(line)) - 1;
                long all = 0;
                for (int v = 0; v <= clues.colours; v++) {
                    all |= cells << MOST_SIDE * v;
                }
                lines[line] = all;
            }
        }

        private void tell(Grid grid) {
            for (int y = 0; y < clues.height; y++) {
                for (int x = 0; x < clues.width; x++) {
                    int v = grid.at(x, y);
                    if (v != NONE) {
                        fix(x, y, v);
                    }
                }
            }
        }

        private void copy(Sets other) {
            System.arraycopy(other.lines, 0, lines, 0, MOST_LINES);
        }

        private void saveTo(long[] stack, int level) {
            System.arraycopy(lines, 0, stack, level * MOST_LINES, MOST_LINES);
        }

        private void restoreFrom(long[] stack, int level) {
            System.arraycopy(stack, level * MOST_LINES, lines, 0, MOST_LINES);
        }

        private void fix(int x, int y, int v) {
            int column = clues.height + x;
            lines[y] = lines[y] & ~(ONE_CELL << x) | 1L << MOST_SIDE * v + x;
            lines[column] = lines[column] & ~(ONE_CELL << y) | 1L << MOST_SIDE * v + y;
        }

        private void drop(int x, int y, int v) {
            lines[y] &= ~(1L << MOST_SIDE * v + x);
            lines[clues.height + x] &= ~(1L << MOST_SIDE * v + y);
        }

        private int valuesAt(int x, int y) {
            return valuesIn(lines[y], x);
        }

        /** The SET of cell p of a LINE, as bits 0 to 3. */
        private static int valuesIn(long line, int p) {
            long cell = line >>> p & ONE_CELL;
            return (int) (cell | cell >>> 11 | cell >>> 22 | cell >>> 33) & 15;
        }

        private static int leastOf(int values) {
            int v = 0;
            while (v < MOST_COLOURS && (values >>> v & 1) == 0) {
                v++;
            }
            return v;
        }

        /** The LINES through a cell, as bits. */
        private int linesThrough(int x, int y) {
            return 1 << y | 1 << clues.height + x;
        }

        /** Leaves a LINE what is kept: the crossing LINES whose cell's SET became smaller, as bits. */
        private int narrow(int line, long kept) {
            long lost = lines[line] & ~kept;
            if (lost == 0) {
                return 0;
            }
            lines[line] &= kept;
            boolean isRow = line < clues.height;
            int own = isRow ? line : line - clues.height;
            int firstCrossing = isRow ? clues.height : 0;
            int touched = 0;
            for (int p = 0; p < clues.cellsOf(line); p++) {
                long lostHere = lost >>> p & ONE_CELL;
                if (lostHere != 0) {
                    lines[firstCrossing + p] &= ~(lostHere << own);
                    touched |= 1 << firstCrossing + p;
                }
            }
            return touched;
        }

        private int countSingles() {
            int singles = 0;
            for (int y = 0; y < clues.height; y++) {
                for (int x = 0; x < clues.width; x++) {
                    singles += Integer.bitCount(valuesAt(x, y)) == 1 ? 1 : 0;
                }
            }
            return singles;
        }

        /** The number (12 y + x) of the first cell of the fewest VALUES, two at least, or NONE. */
        private int firstOfFewest() {
            int best = NONE;
            int fewest = MOST_COLOURS + 2;
            for (int y = 0; y < clues.height; y++) {
                for (int x = 0; x < clues.width; x++) {
                    int size = Integer.bitCount(valuesAt(x, y));
                    if (size >= 2 && size < fewest) {
                        best = MOST_SIDE * y + x;
                        fewest = size;
                    }
                }
            }
            return best;
        }
    }

    /**
     * The LINE RULE and the count of WAYS. A place i of a LINE lies ahead of its cell i; sets of
     * places, of cells and of first cells of a RUN are bits of an int.
     */
    private static final class LineRule {
        private static final int ONE_VALUE = (1 << MOST_SIDE) - 1;

        private final Clues clues;
        /** By k: the places up to which the cells can READ AS the first k RUNS. */
        private final int[] before = new int[MOST_RUNS + 1];
        /** By k: where RUN k can begin, as to what lies ahead of it. */
        private final int[] starts = new int[MOST_RUNS];
        /** By place: how many rows up to it READ AS the RUNS so far; and with one RUN more. */
        private final long[] rows = new long[MOST_SIDE + 1];
        private final long[] nextRows = new long[MOST_SIDE + 1];

        private LineRule(Clues clues) {
            this.clues = clues;
        }

        private static int cellsWith(long sets, int v) {
            return (int) (sets >>> MOST_SIDE * v) & ONE_VALUE;
        }

        /** What a LINE's SETS become; 0 if the rule FAILS. */
        private long keptOf(int line, long sets) {
            int cells = clues.cellsOf(line);
            int runs = clues.counts[line];
            int blanks = cellsWith(sets, 0);
            before[0] = spreadUp(1, blanks);
            for (int k = 0; k < runs; k++) {
                int length = clues.lengthOf(line, k);
                int free = clues.needsGapAhead(line, k) ? (before[k] & blanks) << 1 : before[k];
                starts[k] = free & stretches(cellsWith(sets, clues.colourOf(line, k)), length);
                before[k + 1] = spreadUp(starts[k] << length, blanks);
            }
            if ((before[runs] >>> cells & 1) == 0) {
                return 0;
            }
            // The places from which the cells can READ AS the RUNS from k on.
            int after = spreadDown(1 << cells, blanks);
            long kept = before[runs] & after >>> 1 & blanks;
            for (int k = runs - 1; k >= 0; k--) {
                int length = clues.lengthOf(line, k);
                int stops = clues.needsGapAhead(line, k + 1) ? after >>> 1 & blanks : after;
                int begins = starts[k] & stops >>> length;
                kept |= (long) cover(begins, length) << MOST_SIDE * clues.colourOf(line, k);
                after = spreadDown(begins, blanks);
                kept |= before[k] & after >>> 1 & blanks;
            }
            return kept;
        }

        /** The places that are reached from some by going up over blanks, by leaps of 1, 2, 4, 8. */
        private static int spreadUp(int places, int blanks) {
            int reached = places;
            int open = blanks;
            for (int leap = 1; leap < MOST_SIDE; leap *= 2) {
                reached |= (reached & open) << leap;
                open &= open >>> leap;
            }
            return reached;
        }

        private static int spreadDown(int places, int blanks) {
            int reached = places;
            int open = blanks;
            for (int leap = 1; leap < MOST_SIDE; leap *= 2) {
                reached |= reached >>> leap & open;
                open &= open >>> leap;
            }
            return reached;
        }

        /** The cells with which as many cells begin as a RUN is long. */
        private static int stretches(int cells, int length) {
            int begins = cells;
            for (int i = 1; i < length; i++) {
                begins &= cells >>> i;
            }
            return begins;
        }

        private static int cover(int begins, int length) {
            int cells = 0;
            for (int i = 0; i < length; i++) {
                cells |= begins << i;
            }
            return cells;
        }

        private long countWays(int line, long sets) {
            int cells = clues.cellsOf(line);
            int blanks = cellsWith(sets, 0);
            rows[0] = 1;
            for (int i = 1; i <= cells; i++) {
                rows[i] = (blanks >>> i - 1 & 1) == 0 ? 0 : rows[i - 1];
            }
            for (int k = 0; k < clues.counts[line]; k++) {
                countRun(line, k, sets);
                System.arraycopy(nextRows, 0, rows, 0, cells + 1);
            }
            return rows[cells];
        }

        private void countRun(int line, int k, long sets) {
            int blanks = cellsWith(sets, 0);
            int length = clues.lengthOf(line, k);
            int gap = clues.needsGapAhead(line, k) ? 1 : 0;
            int begins = stretches(cellsWith(sets, clues.colourOf(line, k)), length);
            begins &= gap == 0 ? begins : blanks << 1;
            for (int i = 0; i <= clues.cellsOf(line); i++) {
                nextRows[i] = i > 0 && (blanks >>> i - 1 & 1) == 1 ? nextRows[i - 1] : 0;
                int begin = i - length;
                if (begin >= gap && (begins >>> begin & 1) == 1) {
                    nextRows[i] += rows[begin - gap];
                }
            }
        }
    }

    /** What a SEARCH found: the first two SOLUTIONS, and how many there were. */
    private static final class Found {
        private final Grid first = new Grid();
        private final Grid second = new Grid();
        private int count = 0;
        private int nodes = NONE;
        private boolean isSpent = false;

        private void begin() {
            count = 0;
            nodes = 0;
            isSpent = false;
        }

        private void forgetSolutions() {
            count = 0;
        }

        private void forgetAll() {
            count = 0;
            nodes = NONE;
        }

        private boolean isKept(int k) {
            return k >= 0 && k < 2 && k < count;
        }

        private Grid kept(int k) {
            return k == 0 ? first : second;
        }

        /** For SETS of one VALUE each. */
        private void add(Sets sets) {
            if (count < 2) {
                Grid grid = kept(count);
                for (int y = 0; y < sets.clues.height; y++) {
                    for (int x = 0; x < sets.clues.width; x++) {
                        grid.put(x, y, Sets.leastOf(sets.valuesAt(x, y)));
                    }
                }
            }
            count++;
        }
    }

    /** REST, TRYING, SEARCH and LEVEL. */
    private static final class Solver {
        private final Clues clues;
        private final LineRule lineRule;
        private final Sets work;
        private final Sets trial;
        /** The open choices of a SEARCH, by depth: the SETS, the cell, its VALUES still to come. */
        private final long[] savedSets = new long[MOST_CELLS * MOST_LINES];
        private final int[] chosenCell = new int[MOST_CELLS];
        private final int[] untried = new int[MOST_CELLS];
        private int depth = 0;

        private Solver(Clues clues, LineRule lineRule) {
            this.clues = clues;
            this.lineRule = lineRule;
            work = new Sets(clues);
            trial = new Sets(clues);
        }

        /**
         * REST: its USES, or FAILS. Stale are the LINES of which a SET changed since the LINE RULE
         * was last used on them; on others it changes nothing, so that its use is only counted.
         */
        private int settle(Sets sets, int staleLines) {
            int stale = staleLines;
            for (int round = 1; round <= MOST_ROUNDS; round++) {
                boolean isSmaller = false;
                for (int line = 0; line < clues.lines(); line++) {
                    if ((stale >>> line & 1) == 0) {
                        continue;
                    }
                    long kept = lineRule.keptOf(line, sets.lines[line]);
                    if (kept == 0) {
                        return FAILS;
                    }
                    int touched = sets.narrow(line, kept);
                    stale = stale & ~(1 << line) | touched;
                    isSmaller |= touched != 0;
                }
                if (!isSmaller) {
                    return round * clues.lines();
                }
            }
            return FAILS;
        }

        /** TRYING, on SETS at REST: how many VALUES left by it, or FAILS. */
        private int sift(Sets sets) {
            int gone = 0;
            for (int round = 0; round < MOST_ROUNDS; round++) {
                int goneAhead = gone;
                for (int y = 0; y < clues.height; y++) {
                    for (int x = 0; x < clues.width; x++) {
                        int goneHere = siftCell(sets, x, y);
                        if (goneHere == FAILS) {
                            return FAILS;
                        }
                        gone += goneHere;
                    }
                }
                if (gone == goneAhead) {
                    return gone;
                }
            }
            return gone;
        }

        private int siftCell(Sets sets, int x, int y) {
            int through = sets.linesThrough(x, y);
            int gone = 0;
            for (int v = 0; v <= clues.colours; v++) {
                int values = sets.valuesAt(x, y);
                if (Integer.bitCount(values) < 2) {
                    return gone;
                }
                if ((values >>> v & 1) == 0) {
                    continue;
                }
                trial.copy(sets);
                trial.fix(x, y, v);
                if (settle(trial, through) != FAILS) {
                    continue;
                }
                sets.drop(x, y, v);
                gone++;
                if (settle(sets, through) == FAILS) {
                    return FAILS;
                }
            }
            return gone;
        }

        /** SEARCH from the FIRST SETS. */
        private void seek(Grid givens, int wanted, int allowed, Found found) {
            found.begin();
            depth = 0;
            work.become(givens);
            boolean isAtRest = settle(work, clues.allLines()) != FAILS;
            // Each round but the first is a NODE.
            for (int round = 0; round <= allowed; round++) {
                if (isAtRest && !opensChoice()) {
                    found.add(work);
                    if (found.count >= wanted) {
                        return;
                    }
                }
                closeEmptyChoices();
                if (depth == 0) {
                    return;
                }
                if (found.nodes >= allowed) {
                    found.isSpent = true;
                    return;
                }
                found.nodes++;
                isAtRest = followsChoice();
            }
        }

        /** False if each cell has one VALUE. */
        private boolean opensChoice() {
            int cell = work.firstOfFewest();
            // Each choice leaves one cell more with one VALUE: the depth keeps below the cells.
            if (cell == NONE || depth >= MOST_CELLS) {
                return false;
            }
            work.saveTo(savedSets, depth);
            chosenCell[depth] = cell;
            untried[depth] = work.valuesAt(cell % MOST_SIDE, cell / MOST_SIDE);
            depth++;
            return true;
        }

        private void closeEmptyChoices() {
            while (depth > 0 && untried[depth - 1] == 0) {
                depth--;
            }
        }

        /** Takes the next VALUE of the deepest choice, and whether its SETS come to REST. */
        private boolean followsChoice() {
            int top = depth - 1;
            if (top < 0) {
                return false;
            }
            int v = Sets.leastOf(untried[top]);
            untried[top] &= ~(1 << v);
            int x = chosenCell[top] % MOST_SIDE;
            int y = chosenCell[top] / MOST_SIDE;
            work.restoreFrom(savedSets, top);
            work.fix(x, y, v);
            return settle(work, work.linesThrough(x, y)) != FAILS;
        }

        /** LEVEL. */
        private int judge(Grid givens, Found found) {
            work.become(givens);
            if (settle(work, clues.allLines()) == FAILS) {
                return 4;
            }
            if (work.firstOfFewest() == NONE) {
                return 0;
            }
            if (sift(work) == FAILS) {
                return 4;
            }
            if (work.firstOfFewest() == NONE) {
                return 1;
            }
            seek(givens, 2, NODES_OF_A_JUDGEMENT, found);
            if (found.isSpent) {
                return 5;
            }
            return found.count == 0 ? 4 : found.count + 1;
        }
    }
}
