/** A counted loop over a small memory whose references may overlap. */
public final class LoopVersioner {
    public static final int MOVE = 0;
    public static final int ADD = 1;
    public static final int SUB = 2;
    public static final int MUL = 3;
    public static final int XOR = 4;
    public static final int PLUS = 5;
    public static final int SUM = 6;
    public static final int COUNT = 7;

    private static final int CELLS = 64;
    private static final int LAST_CELL = CELLS - 1;
    private static final int BASES = 4;
    private static final int MOST_STATEMENTS = 5;
    private static final int MOST_ROUNDS = 40;
    private static final int REFERENCES = 512;
    private static final int NO_STRIDE = 7;
    private static final int ZERO_STRIDE = 3;

    private final int[] memory = new int[CELLS];
    private final int[] bases = new int[BASES];
    private final int[] operations = new int[MOST_STATEMENTS];
    private final int[] targets = new int[MOST_STATEMENTS];
    private final int[] sources = new int[MOST_STATEMENTS];
    private final int[] seconds = new int[MOST_STATEMENTS];
    private int bodyLength;
    private int totalNow;

    public LoopVersioner() {
        bodyLength = 0;
        totalNow = 0;
    }

    public int statement(int op, int d, int u, int w) {
        if (op < MOVE || op > COUNT) {
            return -1;
        }
        if (!isReference(d)) {
            return -2;
        }
        if (!isReference(u)) {
            return -3;
        }
        if (takesSecondReference(op) && !isReference(w)) {
            return -4;
        }
        if (bodyLength >= MOST_STATEMENTS) {
            return -5;
        }
        operations[bodyLength] = op;
        targets[bodyLength] = d;
        sources[bodyLength] = u;
        seconds[bodyLength] = w;
        bodyLength++;
        return bodyLength;
    }

    public int retract() {
        if (bodyLength == 0) {
            return -1;
        }
        bodyLength--;
        return bodyLength;
    }

    public int clear() {
        int before = bodyLength;
        bodyLength = 0;
        return before;
    }

    public int statements() {
        return bodyLength;
    }

    public int base(int r, int value) {
        if (r < 0 || r >= BASES) {
            return -1;
        }
        if (!isCell(value)) {
            return -2;
        }
        int before = bases[r];
        bases[r] = value;
        return before;
    }

    public int run(int t) {
        if (!isRoundCount(t)) {
            return -1;
        }
        for (int i = 0; i < t; i++) {
            for (int k = 0; k < bodyLength; k++) {
                doStatement(k, i);
            }
        }
        return totalNow;
    }

    public int poke(int c, int value) {
        if (!isCell(c)) {
            return -1;
        }
        memory[c] = value;
        return 0;
    }

    public int fill(int first, int last, int value, int step) {
        if (first < 0 || first > last || last > LAST_CELL) {
            return -1;
        }
        int next = value;
        for (int c = first; c <= last; c++) {
            memory[c] = next;
            next += step;
        }
        return 0;
    }

    public int peek(int c) {
        return isCell(c) ? memory[c] : 0;
    }

    public int total() {
        return totalNow;
    }

    public int setTotal(int value) {
        int before = totalNow;
        totalNow = value;
        return before;
    }

    public int digest() {
        int sum = 0;
        for (int c = 0; c < CELLS; c++) {
            sum += (c + 1) * memory[c];
        }
        return sum;
    }

    public int cellOf(int ref, int i) {
        if (!isReference(ref)) {
            return -1;
        }
        if (i < 0 || i >= MOST_ROUNDS) {
            return -2;
        }
        return cellInRound(ref, i);
    }

    public int spread(int ref, int t) {
        if (!isReference(ref)) {
            return -1;
        }
        if (!isRoundCount(t)) {
            return -2;
        }
        long cells = cellsMeant(ref, t);
        int count = 0;
        for (int c = 0; c < CELLS; c++) {
            count += (int) (cells >>> c & 1L);
        }
        return count;
    }

    public int meet(int p, int q, int t) {
        if (!isReference(p) || !isReference(q)) {
            return -1;
        }
        if (!isRoundCount(t)) {
            return -2;
        }
        long common = cellsMeant(p, t) & cellsMeant(q, t);
        return common != 0L ? 1 : 0;
    }

    private static boolean isReference(int number) {
        return number >= 0 && number < REFERENCES && strideDigit(number) != NO_STRIDE;
    }

    private static boolean isCell(int number) {
        return number >= 0 && number < CELLS;
    }

    private static boolean isRoundCount(int number) {
        return number >= 0 && number <= MOST_ROUNDS;
    }

    private static boolean takesSecondReference(int op) {
        return op >= ADD && op <= XOR;
    }

    private static int strideDigit(int ref) {
        return ref / 16 % 8;
    }

    private int cellInRound(int ref, int i) {
        int offset = ref % 16;
        int stride = strideDigit(ref) - ZERO_STRIDE;
        // A mask, not %, because a negative stride can take the sum below 0.
        return bases[ref / 128] + offset + stride * i & LAST_CELL;
    }

    // The memory has as many cells as a long has bits, so a set of cells needs no array.
    private long cellsMeant(int ref, int t) {
        long cells = 0L;
        for (int i = 0; i < t; i++) {
            cells |= 1L << cellInRound(ref, i);
        }
        return cells;
    }

    private void doStatement(int k, int i) {
        int op = operations[k];
        int w = seconds[k];
        int target = cellInRound(targets[k], i);
        int source = memory[cellInRound(sources[k], i)];
        if (op == SUM) {
            totalNow += source * w;
        } else if (op == COUNT) {
            memory[target] = w + i;
        } else if (op == PLUS) {
            memory[target] = source + w;
        } else if (op == MOVE) {
            memory[target] = source;
        } else {
            int second = memory[cellInRound(w, i)];
            memory[target] = combined(op, source, second);
        }
    }

    private static int combined(int op, int left, int right) {
        switch (op) {
            case ADD:
                return left + right;
            case SUB:
                return left - right;
            case MUL:
                return left * right;
            default:
                return left ^ right;
        }
    }
}
