import java.math.BigInteger;
import java.util.ArrayList;
import java.util.Arrays;
import java.util.HashSet;
import java.util.List;
import java.util.Set;

/**
 * Long mixed runs of calls, each answer compared with that of a second program. The numbers come
 * from a fixed rule, so that every run of this test makes the same calls.
 */
public final class ModelTest {
    private static final int RUNS = 400;
    private static final int CALLS = 512;
    private static final int[] EDGES = {
        Integer.MIN_VALUE, -65, -64, -1, 0, 1, 3, 4, 5, 7, 8, 39, 40, 41, 63, 64, 111, 112, 127, 128, 255,
        495, 496, 511, 512, Integer.MAX_VALUE
    };

    /** A row of numbers without order that is the same each time for the same seed. */
    private static final class Row {
        private long state;

        Row(int seed) {
            state = seed;
        }

        int nextInt() {
            state = state * 6364136223846793005L + 1442695040888963407L;
            return (int) (state >>> 32);
        }

        int below(int bound) {
            return Integer.remainderUnsigned(nextInt() >>> 4, bound);
        }
    }

    /** The document's words over big numbers and lists, with nothing shared with the class. */
    private static final class Model {
        private final BigInteger[] cells = new BigInteger[64];
        private final int[] bases = new int[4];
        private final List<int[]> body = new ArrayList<>();
        private BigInteger total = BigInteger.ZERO;

        Model() {
            Arrays.fill(cells, BigInteger.ZERO);
        }

        private static BigInteger wrap(BigInteger x) {
            return BigInteger.valueOf(x.intValue());
        }

        private static boolean in(int low, int x, int high) {
            return low <= x && x <= high;
        }

        private static boolean reference(int number) {
            for (int r = 0; r <= 3; r++) {
                for (int s = -3; s <= 3; s++) {
                    if (in(0, number - (128 * r + 16 * (s + 3)), 15)) {
                        return true;
                    }
                }
            }
            return false;
        }

        private int meant(int ref, int i) {
            int r = ref / 128;
            int s = (ref - 128 * r) / 16 - 3;
            int o = ref - 128 * r - 16 * (s + 3);
            return Math.floorMod(bases[r] + o + s * i, 64);
        }

        private Set<Integer> meantUntil(int ref, int t) {
            Set<Integer> all = new HashSet<>();
            for (int i = 0; i < t; i++) {
                all.add(meant(ref, i));
            }
            return all;
        }

        private int statement(int op, int d, int u, int w) {
            if (!in(0, op, 7)) {
                return -1;
            }
            if (!reference(d)) {
                return -2;
            }
            if (!reference(u)) {
                return -3;
            }
            if (in(1, op, 4) && !reference(w)) {
                return -4;
            }
            if (body.size() == 5) {
                return -5;
            }
            body.add(new int[] {op, d, u, w});
            return body.size();
        }

        private void act(int[] statement, int i) {
            int w = statement[3];
            int d = meant(statement[1], i);
            BigInteger number = BigInteger.valueOf(w);
            BigInteger u = cells[meant(statement[2], i)];
            switch (statement[0]) {
                case 0 -> cells[d] = u;
                case 1 -> cells[d] = wrap(u.add(cells[meant(w, i)]));
                case 2 -> cells[d] = wrap(u.subtract(cells[meant(w, i)]));
                case 3 -> cells[d] = wrap(u.multiply(cells[meant(w, i)]));
                case 4 -> cells[d] = wrap(u.xor(cells[meant(w, i)]));
                case 5 -> cells[d] = wrap(u.add(number));
                case 6 -> total = wrap(total.add(u.multiply(number)));
                default -> cells[d] = wrap(number.add(BigInteger.valueOf(i)));
            }
        }

        private int run(int t) {
            if (!in(0, t, 40)) {
                return -1;
            }
            for (int i = 0; i < t; i++) {
                for (int[] statement : body) {
                    act(statement, i);
                }
            }
            return total.intValue();
        }

        private int retract() {
            if (body.isEmpty()) {
                return -1;
            }
            body.remove(body.size() - 1);
            return body.size();
        }

        private int clear() {
            int before = body.size();
            body.clear();
            return before;
        }

        private int base(int r, int value) {
            if (!in(0, r, 3)) {
                return -1;
            }
            if (!in(0, value, 63)) {
                return -2;
            }
            int before = bases[r];
            bases[r] = value;
            return before;
        }

        private int poke(int c, int value) {
            if (!in(0, c, 63)) {
                return -1;
            }
            cells[c] = BigInteger.valueOf(value);
            return 0;
        }

        private int fill(int first, int last, int value, int step) {
            if (!(in(0, first, last) && in(first, last, 63))) {
                return -1;
            }
            for (int n = 0; n <= last - first; n++) {
                BigInteger added = BigInteger.valueOf(step).multiply(BigInteger.valueOf(n));
                cells[first + n] = wrap(added.add(BigInteger.valueOf(value)));
            }
            return 0;
        }

        private int setTotal(int value) {
            int before = total.intValue();
            total = BigInteger.valueOf(value);
            return before;
        }

        private int digest() {
            BigInteger sum = BigInteger.ZERO;
            for (int c = 0; c < 64; c++) {
                sum = sum.add(cells[c].multiply(BigInteger.valueOf(c + 1)));
            }
            return sum.intValue();
        }

        private int cellOf(int ref, int i) {
            return !reference(ref) ? -1 : !in(0, i, 39) ? -2 : meant(ref, i);
        }

        private int spread(int ref, int t) {
            return !reference(ref) ? -1 : !in(0, t, 40) ? -2 : meantUntil(ref, t).size();
        }

        private int meet(int p, int q, int t) {
            if (!reference(p) || !reference(q)) {
                return -1;
            }
            if (!in(0, t, 40)) {
                return -2;
            }
            Set<Integer> common = meantUntil(p, t);
            common.retainAll(meantUntil(q, t));
            return common.isEmpty() ? 0 : 1;
        }

        int answer(int method, int a, int b, int c, int d) {
            return switch (method) {
                case 0 -> statement(a, b, c, d);
                case 1 -> retract();
                case 2 -> clear();
                case 3 -> body.size();
                case 4 -> base(a, b);
                case 5 -> run(a);
                case 6 -> poke(a, b);
                case 7 -> fill(a, b, c, d);
                case 8 -> in(0, a, 63) ? cells[a].intValue() : 0;
                case 9 -> total.intValue();
                case 10 -> setTotal(a);
                case 11 -> digest();
                case 12 -> cellOf(a, b);
                case 13 -> spread(a, b);
                default -> meet(a, b, c);
            };
        }
    }

    private static final String[] NAMES = {
        "statement", "retract", "clear", "statements", "base", "run", "poke", "fill", "peek", "total",
        "setTotal", "digest", "cellOf", "spread", "meet"
    };

    /** How often each method is called, and clear seldom, so that bodies grow full. */
    private static final int[] WEIGHTS = {14, 3, 1, 2, 6, 14, 5, 4, 8, 2, 2, 14, 5, 5, 8};

    /** The greatest ordinary value of each argument; -1 stands for any number. */
    private static final int[][] GREATEST = {
        {7, 511, 511, 511}, {}, {}, {}, {3, 63}, {40}, {63, -1}, {63, 63, -1, -1}, {63}, {}, {-1}, {},
        {511, 39}, {511, 40}, {511, 511, 40}
    };

    private static int answerOf(LoopVersioner x, int method, int a, int b, int c, int d) {
        return switch (method) {
            case 0 -> x.statement(a, b, c, d);
            case 1 -> x.retract();
            case 2 -> x.clear();
            case 3 -> x.statements();
            case 4 -> x.base(a, b);
            case 5 -> x.run(a);
            case 6 -> x.poke(a, b);
            case 7 -> x.fill(a, b, c, d);
            case 8 -> x.peek(a);
            case 9 -> x.total();
            case 10 -> x.setTotal(a);
            case 11 -> x.digest();
            case 12 -> x.cellOf(a, b);
            case 13 -> x.spread(a, b);
            default -> x.meet(a, b, c);
        };
    }

    private static int pickMethod(Row row) {
        int all = 0;
        for (int weight : WEIGHTS) {
            all += weight;
        }
        int left = row.below(all);
        int method = 0;
        while (left >= WEIGHTS[method]) {
            left -= WEIGHTS[method];
            method++;
        }
        return method;
    }

    private static int[] pickArguments(Row row, int method) {
        int[] picked = new int[4];
        int[] greatest = GREATEST[method];
        for (int n = 0; n < greatest.length; n++) {
            if (row.below(24) == 0) {
                picked[n] = EDGES[row.below(EDGES.length)];
            } else if (greatest[n] < 0) {
                picked[n] = row.nextInt() >> row.below(32);
            } else {
                picked[n] = row.below(greatest[n] + 1);
            }
        }
        return picked;
    }

    /** True if every answer of the run was as due; it ends with the first that was not. */
    private static boolean agree(int seed) {
        Row row = new Row(seed);
        LoopVersioner x = new LoopVersioner();
        Model model = new Model();
        for (int call = 1; call <= CALLS; call++) {
            int method = pickMethod(row);
            int[] a = pickArguments(row, method);
            int got = answerOf(x, method, a[0], a[1], a[2], a[3]);
            int want = model.answer(method, a[0], a[1], a[2], a[3]);
            if (got != want) {
                System.out.println("seed " + seed + ", call " + call + ": " + NAMES[method]
                        + Arrays.toString(Arrays.copyOf(a, GREATEST[method].length))
                        + " answered " + got + ", due is " + want);
                return false;
            }
        }
        return true;
    }

    public static void main(String[] args) {
        int wrong = 0;
        for (int seed = 1; seed <= RUNS; seed++) {
            if (!agree(seed)) {
                wrong++;
            }
        }
        System.out.println(wrong == 0 ? "all runs agree with the model" : wrong + " runs do not agree");
        if (wrong != 0) {
            System.exit(1);
        }
    }
}
