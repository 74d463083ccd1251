import java.util.ArrayList;
import java.util.LinkedHashMap;
import java.util.List;
import java.util.Map;
import java.util.function.Supplier;

/**
 * Each sentence of the document that names a boundary case, with a test of its own. The tables at the
 * end say which test stands for which words (after a colon, for which case of them); what is due was
 * worked out by hand. A test ends with its first wrong answer, so that a class that has lost a bound is
 * not asked to go far past it.
 */
public final class BoundaryTest {
    private static final int LOW = Integer.MIN_VALUE;
    private static final int HIGH = Integer.MAX_VALUE;
    private static final int MOVE = LoopVersioner.MOVE;
    private static final int ADD = LoopVersioner.ADD;
    private static final int SUB = LoopVersioner.SUB;
    private static final int MUL = LoopVersioner.MUL;
    private static final int XOR = LoopVersioner.XOR;
    private static final int PLUS = LoopVersioner.PLUS;
    private static final int SUM = LoopVersioner.SUM;
    private static final int COUNT = LoopVersioner.COUNT;

    /** Numbers beside every bound of the document, and some that a mask or a cast would let through. */
    private static final int[] EDGES = {
        LOW, LOW + 1, LOW + 64, -65536, -512, -256, -128, -65, -64, -63, -41, -40, -16, -8, -5, -4, -3, -2,
        -1, 0, 1, 2, 3, 4, 5, 6, 7, 8, 9, 15, 16, 31, 32, 39, 40, 41, 42, 62, 63, 64, 65, 80, 127, 128, 255,
        256, 511, 512, 65535, 65536, 65600, HIGH - 63, HIGH - 1, HIGH
    };

    /** Beside each bound of the numbers that are references, and far away from them. */
    private static final int[] NOT_REFERENCES = {
        LOW, LOW + 48, -512, -464, -128, -80, -16, -1, 112, 119, 127, 240, 255, 368, 383, 496, 511, 512, 560,
        623, 1024, 65536, 65584, HIGH - 15, HIGH
    };

    private interface Call {
        int on(LoopVersioner x);
    }

    private static int broken = 0;

    private static void due(String what, int got, int want) {
        if (got != want) {
            throw new AssertionError(what + " answered " + got + ", due is " + want);
        }
    }

    /** A call may not throw either, and one that does may not hide the tests after it. */
    private static void test(String place, String words, Runnable body) {
        String fault = "";
        try {
            body.run();
        } catch (AssertionError wrongAnswer) {
            fault = wrongAnswer.getMessage();
        } catch (RuntimeException thrown) {
            fault = "a call threw " + thrown;
        }
        if (!fault.isEmpty()) {
            broken++;
            System.out.println(place + " \"" + words + "\": " + fault);
        }
    }

    private static int ref(int r, int s, int o) {
        return 128 * r + 16 * (s + 3) + o;
    }

    /** A reference that means the same cell (0 .. 15, while base 0 is 0) in every round. */
    private static int at(int cell) {
        return ref(0, 0, cell);
    }

    private static List<Integer> outside(int low, int high) {
        List<Integer> numbers = new ArrayList<>();
        for (int number : EDGES) {
            if (number < low || number > high) {
                numbers.add(number);
            }
        }
        return numbers;
    }

    private static void dueMemory(String what, LoopVersioner x, int... want) {
        for (int c = 0; c < 64; c++) {
            due(what + ": cell " + c, x.peek(c), c < want.length ? want[c] : 0);
        }
    }

    /** No part of its state is that of a new object, and the body is empty. */
    private static LoopVersioner withoutBody() {
        LoopVersioner x = new LoopVersioner();
        x.fill(0, 63, 1001, 37);
        x.setTotal(-77);
        for (int r = 0; r < 4; r++) {
            x.base(r, 63 - 17 * r);
        }
        return x;
    }

    private static LoopVersioner withTwoStatements() {
        LoopVersioner x = withoutBody();
        x.statement(MUL, ref(0, 1, 2), ref(1, 2, 0), ref(2, -1, 5));
        x.statement(XOR, ref(3, -3, 9), ref(2, 1, 1), ref(0, 2, 3));
        return x;
    }

    private static LoopVersioner withFullBody() {
        LoopVersioner x = withTwoStatements();
        x.statement(SUM, ref(0, 0, 0), ref(3, 1, 1), 3);
        x.statement(COUNT, ref(1, -2, 4), ref(0, 0, 0), -9);
        x.statement(SUB, ref(2, 3, 15), ref(0, -1, 7), ref(1, 1, 11));
        return x;
    }

    /** All that can be seen of an object: its answers, and what its body does, statement by statement. */
    private static Map<String, Call> views() {
        Map<String, Call> calls = new LinkedHashMap<>();
        for (int c = 0; c < 64; c++) {
            int cell = c;
            calls.put("peek(" + c + ")", x -> x.peek(cell));
        }
        for (int r = 0; r < 4; r++) {
            int base = ref(r, 0, 0);
            calls.put("base " + r, x -> x.cellOf(base, 0));
        }
        calls.put("total()", x -> x.total());
        calls.put("statements()", x -> x.statements());
        calls.put("clear()", x -> x.clear());
        for (int n = 0; n <= 5; n++) {
            int less = n;
            calls.put("run(7) with " + n + " statements less", x -> runWithLess(x, less));
            calls.put("run(7) with " + n + " statements less, digest()", x -> {
                runWithLess(x, less);
                return x.digest();
            });
        }
        return calls;
    }

    private static int runWithLess(LoopVersioner x, int less) {
        for (int n = 0; n < less; n++) {
            x.retract();
        }
        return x.run(7);
    }

    /** Each view has objects of its own: a call that changes something would hide what it changed before. */
    private static void dueSame(String what, Supplier<LoopVersioner> got, Supplier<LoopVersioner> want) {
        views().forEach((name, view) ->
                due(what + ", then " + name, view.on(got.get()), view.on(want.get())));
    }

    private static Supplier<LoopVersioner> after(Call call, Supplier<LoopVersioner> start) {
        return () -> {
            LoopVersioner x = start.get();
            call.on(x);
            return x;
        };
    }

    /** On objects with an empty, a short and a full body. */
    private static void changesNothing(String what, Call call) {
        List<Supplier<LoopVersioner>> starts = List.of(LoopVersioner::new, BoundaryTest::withoutBody,
                BoundaryTest::withTwoStatements, BoundaryTest::withFullBody);
        for (Supplier<LoopVersioner> start : starts) {
            dueSame(what, after(call, start), start);
        }
    }

    private static void lastOf512Calls() {
        LoopVersioner x = new LoopVersioner();
        x.statement(SUM, at(0), at(1), 1);
        x.poke(1, 3);
        for (int n = 1; n <= 509; n++) {
            due("run " + n, x.run(1), 3 * n);
        }
        due("the 512th call, total()", x.total(), 3 * 509);

        LoopVersioner y = new LoopVersioner();
        for (int n = 1; n <= 511; n++) {
            y.retract();
        }
        due("the 512th call, statement", y.statement(MOVE, at(0), at(0), 0), 1);

        LoopVersioner z = new LoopVersioner();
        for (int n = 1; n <= 511; n++) {
            z.poke(63, n);
        }
        due("the 512th call, peek(63)", z.peek(63), 511);
    }

    private static void sixtyFourCells() {
        LoopVersioner x = new LoopVersioner();
        for (int c = 0; c < 64; c++) {
            due("poke(" + c + ")", x.poke(c, 1000 + c), 0);
        }
        for (int c = 0; c < 64; c++) {
            due("peek(" + c + ")", x.peek(c), 1000 + c);
        }
        due("poke(-1)", x.poke(-1, 1), -1);
        due("poke(64)", x.poke(64, 1), -1);
    }

    private static void cellsAreInts() {
        for (int value : new int[] {LOW, LOW + 1, -65536, -1, 1, 65536, HIGH - 1, HIGH}) {
            LoopVersioner x = new LoopVersioner();
            for (int c = 0; c < 64; c++) {
                x.poke(c, value);
                due("cell " + c, x.peek(c), value);
            }
        }
    }

    private static void cellsAreZeroAtFirst() {
        LoopVersioner x = new LoopVersioner();
        dueMemory("new", x);
        due("digest()", x.digest(), 0);
    }

    private static void fourBases() {
        for (int value = 0; value < 64; value++) {
            LoopVersioner x = new LoopVersioner();
            for (int r = 0; r < 4; r++) {
                x.base(r, (value + r) % 64);
            }
            for (int r = 0; r < 4; r++) {
                due("base " + r, x.cellOf(ref(r, 0, 0), 0), (value + r) % 64);
            }
        }
    }

    private static void basesAreZeroAtFirst() {
        LoopVersioner x = new LoopVersioner();
        for (int r = 0; r < 4; r++) {
            due("cell of base " + r, x.cellOf(ref(r, 0, 0), 0), 0);
            due("base(" + r + ", 9)", x.base(r, 9), 0);
        }
    }

    private static void totalIsZeroAtFirst() {
        due("total()", new LoopVersioner().total(), 0);
        due("setTotal(9)", new LoopVersioner().setTotal(9), 0);
        due("run(0)", new LoopVersioner().run(0), 0);
    }

    private static void totalIsAnInt() {
        LoopVersioner x = new LoopVersioner();
        for (int value : new int[] {LOW, LOW + 1, -65536, -1, 0, 1, 65536, HIGH - 1, HIGH}) {
            x.setTotal(value);
            due("total()", x.total(), value);
            due("run(0)", x.run(0), value);
        }
    }

    /** Which of the numbers 0 .. 511 are written for some base, stride and offset. */
    private static boolean[] references() {
        boolean[] written = new boolean[512];
        for (int r = 0; r <= 3; r++) {
            for (int s = -3; s <= 3; s++) {
                for (int o = 0; o <= 15; o++) {
                    written[ref(r, s, o)] = true;
                }
            }
        }
        return written;
    }

    private static void dueReference(int number, boolean good) {
        LoopVersioner x = new LoopVersioner();
        int plain = at(0);
        due("statement, d " + number, x.statement(ADD, number, plain, plain), good ? 1 : -2);
        x.clear();
        due("statement, u " + number, x.statement(ADD, plain, number, plain), good ? 1 : -3);
        x.clear();
        due("statement, w " + number, x.statement(ADD, plain, plain, number), good ? 1 : -4);
        due("spread(" + number + ", 1)", x.spread(number, 1), good ? 1 : -1);
        due("meet(" + number + ", 48, 0)", x.meet(number, plain, 0), good ? 0 : -1);
        due("meet(48, " + number + ", 0)", x.meet(plain, number, 0), good ? 0 : -1);
        due("cellOf(" + number + ", 0)", x.cellOf(number, 0), good ? number % 16 : -1);
    }

    private static void numbersThatAreReferences() {
        boolean[] written = references();
        for (int number = -1100; number <= 1100; number++) {
            dueReference(number, number >= 0 && number <= 511 && written[number]);
        }
        for (int number : NOT_REFERENCES) {
            dueReference(number, false);
        }
    }

    private static void strideDigitSeven() {
        for (int r = 0; r <= 3; r++) {
            dueReference(128 * r + 111, true);
            dueReference(128 * r + 112, false);
            dueReference(128 * r + 127, false);
        }
    }

    private static void partsOfAReference() {
        for (int r = 0; r <= 3; r++) {
            for (int s = -3; s <= 3; s++) {
                LoopVersioner x = new LoopVersioner();
                for (int other = 0; other <= 3; other++) {
                    x.base(other, other == r ? 20 : 50);
                }
                for (int o = 0; o <= 15; o++) {
                    String parts = "base " + r + ", stride " + s + ", offset " + o;
                    due(parts + ", round 0", x.cellOf(ref(r, s, o), 0), 20 + o);
                    due(parts + ", round 5", x.cellOf(ref(r, s, o), 5), 20 + o + 5 * s);
                }
            }
        }
    }

    private static int cellWithBase(int base, int s, int o, int i) {
        LoopVersioner x = new LoopVersioner();
        x.base(2, base);
        return x.cellOf(ref(2, s, o), i);
    }

    private static void remainders() {
        due("sum 63", cellWithBase(63, 0, 0, 0), 63);
        due("sum 64", cellWithBase(63, 0, 1, 0), 0);
        due("sum 78", cellWithBase(63, 0, 15, 39), 14);
        due("sum 127", cellWithBase(63, 2, 0, 32), 63);
        due("sum 128", cellWithBase(63, 2, 1, 32), 0);
        due("sum 191", cellWithBase(63, 3, 14, 38), 63);
        due("sum 192", cellWithBase(63, 3, 15, 38), 0);
        due("sum 195, the greatest", cellWithBase(63, 3, 15, 39), 3);
        due("sum 0", cellWithBase(1, -1, 0, 1), 0);
        due("sum -1", cellWithBase(0, -1, 0, 1), 63);
        due("sum -63", cellWithBase(0, -3, 0, 21), 1);
        due("sum -64", cellWithBase(0, -2, 0, 32), 0);
        due("sum -65", cellWithBase(0, -2, 1, 33), 63);
        due("sum -117, the least", cellWithBase(0, -3, 0, 39), 11);
    }

    /** Forty rounds of a reference that goes over an end of the memory, in each place of a statement. */
    private static void dueRoundTheEnd(int s, int start) {
        for (int t = 1; t <= 40; t++) {
            int last = Math.floorMod(start + s * (t - 1), 64);
            String rounds = "stride " + s + " in " + t + " rounds, ";
            LoopVersioner x = new LoopVersioner();
            x.base(3, start);
            x.statement(COUNT, ref(3, s, 0), at(0), 500);
            x.run(t);
            due(rounds + "as d: peek(" + last + ")", x.peek(last), 500 + t - 1);

            LoopVersioner y = new LoopVersioner();
            y.base(3, start);
            y.fill(0, 63, 900, 1);
            y.statement(SUM, at(0), ref(3, s, 0), 1);
            int before = t == 1 ? 0 : y.run(t - 1);
            y.setTotal(0);
            due(rounds + "as u: run", y.run(t) - before, 900 + last);
        }
    }

    private static void remaindersInARun() {
        dueRoundTheEnd(1, 60);
        dueRoundTheEnd(3, 63);
        dueRoundTheEnd(-1, 3);
        dueRoundTheEnd(-3, 0);

        LoopVersioner x = new LoopVersioner();
        x.poke(0, 5);
        x.poke(63, 7);
        x.base(1, 63);
        x.base(2, 30);
        x.statement(ADD, ref(2, 1, 0), ref(2, 0, 15), ref(1, 1, 0));
        x.statement(ADD, ref(2, 1, 5), ref(2, 0, 15), ref(0, -1, 0));
        x.run(2);
        due("as w, over 63: round 0", x.peek(30), 7);
        due("as w, over 63: round 1", x.peek(31), 5);
        due("as w, below 0: round 0", x.peek(35), 5);
        due("as w, below 0: round 1", x.peek(36), 7);
    }

    private static void atMostFiveStatements() {
        LoopVersioner x = new LoopVersioner();
        for (int n = 0; n < 5; n++) {
            x.statement(PLUS, at(n), at(n), n + 1);
        }
        x.statement(PLUS, at(5), at(5), 6);
        due("statements()", x.statements(), 5);
        x.run(1);
        dueMemory("all five are done, no sixth", x, 1, 2, 3, 4, 5);
    }

    private static void cellsAsTheyAreThen() {
        LoopVersioner x = new LoopVersioner();
        x.poke(0, 3);
        x.statement(MUL, at(0), at(0), at(0));
        x.statement(SUB, at(1), at(0), at(1));
        x.run(2);
        dueMemory("one cell as d, u and w", x, 81, 81 - 9);

        LoopVersioner y = new LoopVersioner();
        y.base(1, 63);
        y.fill(0, 63, 1, 1);
        y.statement(MOVE, ref(1, 1, 1), ref(1, 1, 0), 0);
        y.run(3);
        due("what round 0 wrote, over the end", y.peek(0), 64);
        due("what round 1 wrote", y.peek(1), 64);
        due("what round 2 wrote", y.peek(2), 64);
        due("what no round wrote", y.peek(3), 4);
    }

    /** Cell 3 after one round of the operation over cell 1 and the second part. */
    private static int outcome(int op, int u, int w, int cell2) {
        LoopVersioner x = new LoopVersioner();
        x.poke(1, u);
        x.poke(2, cell2);
        x.statement(op, at(3), at(1), w);
        x.run(1);
        return x.peek(3);
    }

    private static void addWraps() {
        due("HIGH + 1", outcome(ADD, HIGH, at(2), 1), LOW);
        due("LOW + -1", outcome(ADD, LOW, at(2), -1), HIGH);
        due("LOW + LOW", outcome(ADD, LOW, at(2), LOW), 0);
        due("HIGH + HIGH", outcome(ADD, HIGH, at(2), HIGH), -2);
    }

    private static void subWraps() {
        due("LOW - 1", outcome(SUB, LOW, at(2), 1), HIGH);
        due("HIGH - -1", outcome(SUB, HIGH, at(2), -1), LOW);
        due("0 - LOW", outcome(SUB, 0, at(2), LOW), LOW);
        due("HIGH - LOW", outcome(SUB, HIGH, at(2), LOW), -1);
    }

    private static void mulWraps() {
        due("65536 * 65536", outcome(MUL, 65536, at(2), 65536), 0);
        due("65537 * 65537", outcome(MUL, 65537, at(2), 65537), 131073);
        due("LOW * -1", outcome(MUL, LOW, at(2), -1), LOW);
        due("HIGH * HIGH", outcome(MUL, HIGH, at(2), HIGH), 1);
        due("HIGH * 2", outcome(MUL, HIGH, at(2), 2), -2);
    }

    private static void xorOfEnds() {
        due("HIGH ^ LOW", outcome(XOR, HIGH, at(2), LOW), -1);
        due("LOW ^ LOW", outcome(XOR, LOW, at(2), LOW), 0);
        due("LOW ^ -1", outcome(XOR, LOW, at(2), -1), HIGH);
        due("0 ^ HIGH", outcome(XOR, 0, at(2), HIGH), HIGH);
    }

    private static void plusWraps() {
        due("HIGH + 1", outcome(PLUS, HIGH, 1, 0), LOW);
        due("LOW + -1", outcome(PLUS, LOW, -1, 0), HIGH);
        due("HIGH + HIGH", outcome(PLUS, HIGH, HIGH, 0), -2);
        due("LOW + LOW", outcome(PLUS, LOW, LOW, 0), 0);
    }

    private static int totalAfterSum(int before, int u, int w) {
        LoopVersioner x = new LoopVersioner();
        x.setTotal(before);
        x.poke(1, u);
        x.statement(SUM, at(3), at(1), w);
        return x.run(1);
    }

    private static void sumWraps() {
        due("HIGH + 1 * 1", totalAfterSum(HIGH, 1, 1), LOW);
        due("LOW + 1 * -1", totalAfterSum(LOW, 1, -1), HIGH);
        due("7 + 65536 * 65536", totalAfterSum(7, 65536, 65536), 7);
        due("0 + LOW * -1", totalAfterSum(0, LOW, -1), LOW);
        due("0 + HIGH * HIGH", totalAfterSum(0, HIGH, HIGH), 1);
        due("5 + HIGH * LOW", totalAfterSum(5, HIGH, LOW), LOW + 5);
        due("5 + 9 * 0", totalAfterSum(5, 9, 0), 5);
    }

    private static void countWraps() {
        LoopVersioner x = new LoopVersioner();
        x.statement(COUNT, ref(0, 1, 0), at(0), HIGH - 1);
        x.statement(COUNT, ref(0, 1, 10), at(0), -2);
        x.run(4);
        dueMemory("from HIGH - 1, and from -2", x,
                HIGH - 1, HIGH, LOW, LOW + 1, 0, 0, 0, 0, 0, 0, -2, -1, 0, 1);
    }

    private static void moveAtTheEnds() {
        due("MOVE of LOW", outcome(MOVE, LOW, at(2), 5), LOW);
        due("MOVE of HIGH", outcome(MOVE, HIGH, at(2), 5), HIGH);
        due("MOVE, w HIGH", outcome(MOVE, 8, HIGH, 5), 8);
        due("MOVE, w LOW", outcome(MOVE, 8, LOW, 5), 8);
        due("MOVE, w 112", outcome(MOVE, 8, 112, 5), 8);
    }

    /** Numbers that would be references, or lie beside them, are taken as numbers. */
    private static void secondPartAsANumber() {
        for (int w : new int[] {0, 1, at(2), 111, 112, 127, 511, 512, -1}) {
            due("PLUS, w " + w, outcome(PLUS, 100, w, 9000), 100 + w);
            due("COUNT, w " + w, outcome(COUNT, 100, w, 9000), w);
            due("SUM, w " + w, totalAfterSum(0, 100, w), 100 * w);
        }
    }

    private static void targetOfSum() {
        LoopVersioner x = new LoopVersioner();
        x.fill(0, 4, 10, 10);
        x.statement(SUM, ref(0, 1, 0), at(2), 2);
        due("run(5)", x.run(5), 5 * 60);
        dueMemory("d of SUM", x, 10, 20, 30, 40, 50);
    }

    private static void sourceOfCount() {
        for (int u : new int[] {HIGH, LOW, 0, 77}) {
            due("u holds " + u, outcome(COUNT, u, 6, 0), 6);
        }
        LoopVersioner x = new LoopVersioner();
        x.setTotal(4);
        x.fill(0, 2, 10, 10);
        x.statement(COUNT, at(3), at(1), 6);
        due("the total", x.run(1), 4);
        dueMemory("u of COUNT", x, 10, 20, 30, 6);
    }

    private static void roundsFromZeroToTheLast() {
        for (int t = 0; t <= 40; t++) {
            LoopVersioner x = new LoopVersioner();
            x.statement(COUNT, ref(0, 1, 0), at(0), 1);
            x.run(t);
            for (int c = 0; c < 64; c++) {
                due("run(" + t + "): cell " + c, x.peek(c), c < t ? c + 1 : 0);
            }
        }
    }

    private static void eachRunBeginsWithRoundZero() {
        LoopVersioner x = new LoopVersioner();
        x.statement(COUNT, at(0), at(0), 100);
        x.run(40);
        due("the last round of 40", x.peek(0), 139);
        x.run(1);
        due("the only round of 1", x.peek(0), 100);
    }

    private static void statementsInOrder() {
        LoopVersioner x = new LoopVersioner();
        x.statement(PLUS, at(0), at(0), 1);
        x.statement(ADD, at(1), at(0), at(0));
        x.statement(MUL, at(2), at(1), at(1));
        x.statement(SUB, at(3), at(2), at(0));
        x.statement(SUM, at(0), at(3), 1);
        due("run(2)", x.run(2), 3 + 14);
        dueMemory("each after all before it", x, 2, 4, 16, 14);
    }

    private static Map<String, Call> questions() {
        Map<String, Call> calls = new LinkedHashMap<>();
        calls.put("statements()", x -> x.statements());
        calls.put("total()", x -> x.total());
        calls.put("digest()", x -> x.digest());
        calls.put("peek(0)", x -> x.peek(0));
        calls.put("peek(63)", x -> x.peek(63));
        calls.put("cellOf(0, 0)", x -> x.cellOf(0, 0));
        calls.put("cellOf(495, 39)", x -> x.cellOf(495, 39));
        calls.put("spread(0, 0)", x -> x.spread(0, 0));
        calls.put("spread(495, 40)", x -> x.spread(495, 40));
        calls.put("meet(0, 0, 0)", x -> x.meet(0, 0, 0));
        calls.put("meet(0, 495, 40)", x -> x.meet(0, 495, 40));
        return calls;
    }

    private static void questionsChangeNothing() {
        questions().forEach(BoundaryTest::changesNothing);
    }

    private static void questionsAnswerTheSameAgain() {
        questions().forEach((name, call) -> {
            LoopVersioner x = withFullBody();
            int first = call.on(x);
            due(name + " again", call.on(x), first);
            due(name + " a third time", call.on(x), first);
        });
    }

    /** Every refusal that any state makes; the two that hang on the body stand in its tests. */
    private static Map<String, Call> refusals() {
        Map<String, Call> calls = new LinkedHashMap<>();
        calls.put("statement(-1, ..)", x -> x.statement(-1, at(1), at(2), at(3)));
        calls.put("statement(8, ..)", x -> x.statement(8, at(1), at(2), at(3)));
        calls.put("statement, d -1", x -> x.statement(MOVE, -1, at(2), at(3)));
        calls.put("statement, d 512", x -> x.statement(SUM, 512, at(2), at(3)));
        calls.put("statement, u 112", x -> x.statement(MOVE, at(1), 112, at(3)));
        calls.put("statement, u 511", x -> x.statement(COUNT, at(1), 511, at(3)));
        calls.put("statement, w 127", x -> x.statement(ADD, at(1), at(2), 127));
        calls.put("statement, w HIGH", x -> x.statement(XOR, at(1), at(2), HIGH));
        calls.put("base(-1, 5)", x -> x.base(-1, 5));
        calls.put("base(4, 5)", x -> x.base(4, 5));
        for (int r = 0; r < 4; r++) {
            int of = r;
            calls.put("base(" + r + ", -1)", x -> x.base(of, -1));
            calls.put("base(" + r + ", 64)", x -> x.base(of, 64));
        }
        calls.put("run(-1)", x -> x.run(-1));
        calls.put("run(41)", x -> x.run(41));
        calls.put("poke(-1, 5)", x -> x.poke(-1, 5));
        calls.put("poke(64, 5)", x -> x.poke(64, 5));
        calls.put("fill(-1, 63, 5, 5)", x -> x.fill(-1, 63, 5, 5));
        calls.put("fill(0, 64, 5, 5)", x -> x.fill(0, 64, 5, 5));
        calls.put("fill(32, 31, 5, 5)", x -> x.fill(32, 31, 5, 5));
        calls.put("cellOf(112, 0)", x -> x.cellOf(112, 0));
        calls.put("cellOf(0, 40)", x -> x.cellOf(0, 40));
        calls.put("spread(112, 0)", x -> x.spread(112, 0));
        calls.put("spread(0, 41)", x -> x.spread(0, 41));
        calls.put("meet(112, 0, 0)", x -> x.meet(112, 0, 0));
        calls.put("meet(0, 112, 0)", x -> x.meet(0, 112, 0));
        calls.put("meet(0, 0, 41)", x -> x.meet(0, 0, 41));
        return calls;
    }

    private static void refusedCallsChangeNothing() {
        refusals().forEach(BoundaryTest::changesNothing);
        changesNothing("peek(-1)", x -> x.peek(-1));
        changesNothing("peek(64)", x -> x.peek(64));
    }

    private static void refusedForTheBodyChangesNothing() {
        for (int op = 0; op <= 7; op++) {
            int sixth = op;
            dueSame("a sixth, op " + op,
                    after(x -> x.statement(sixth, at(1), at(2), at(3)), BoundaryTest::withFullBody),
                    BoundaryTest::withFullBody);
        }
        dueSame("retract() of none", after(x -> x.retract(), BoundaryTest::withoutBody),
                BoundaryTest::withoutBody);
    }

    private static int callAllRefusals(LoopVersioner x) {
        int sum = 0;
        for (Call refused : refusals().values()) {
            sum += refused.on(x);
        }
        return sum;
    }

    /** A call between refused ones does what it would have done without them. */
    private static void goodCallsAfterRefusedOnes() {
        Call put = x -> x.statement(PLUS, ref(1, 1, 0), ref(2, 1, 0), 6);
        Call set = x -> x.base(2, 0);
        Supplier<LoopVersioner> refusedFirst = after(BoundaryTest::callAllRefusals,
                BoundaryTest::withTwoStatements);
        Supplier<LoopVersioner> refusedAgain = after(BoundaryTest::callAllRefusals, after(put, refusedFirst));
        due("a third statement", put.on(refusedFirst.get()), 3);
        due("the base before", set.on(refusedAgain.get()), 29);
        dueSame("after refused calls", after(set, refusedAgain),
                after(set, after(put, BoundaryTest::withTwoStatements)));
    }

    private static void orderInStatement() {
        for (int faults = 0; faults < 32; faults++) {
            LoopVersioner x = (faults & 16) != 0 ? withFullBody() : withTwoStatements();
            int op = (faults & 1) != 0 ? 8 : ADD;
            int d = (faults & 2) != 0 ? 112 : at(1);
            int u = (faults & 4) != 0 ? 112 : at(2);
            int w = (faults & 8) != 0 ? 112 : at(3);
            int first = Integer.numberOfTrailingZeros(faults);
            due("statement with the faults " + Integer.toBinaryString(faults),
                    x.statement(op, d, u, w), faults == 0 ? 3 : -1 - first);
        }
    }

    private static void orderInBase() {
        for (int r : outside(0, 3)) {
            for (int value : outside(0, 63)) {
                due("base(" + r + ", " + value + ")", new LoopVersioner().base(r, value), -1);
            }
        }
    }

    private static void orderInCellOf() {
        for (int bad : NOT_REFERENCES) {
            for (int i : outside(0, 39)) {
                due("cellOf(" + bad + ", " + i + ")", new LoopVersioner().cellOf(bad, i), -1);
            }
        }
    }

    private static void orderInSpread() {
        for (int bad : NOT_REFERENCES) {
            for (int t : outside(0, 40)) {
                due("spread(" + bad + ", " + t + ")", new LoopVersioner().spread(bad, t), -1);
            }
        }
    }

    private static void orderInMeet() {
        for (int bad : NOT_REFERENCES) {
            for (int t : outside(0, 40)) {
                LoopVersioner x = new LoopVersioner();
                due("meet(" + bad + ", 0, " + t + ")", x.meet(bad, 0, t), -1);
                due("meet(0, " + bad + ", " + t + ")", x.meet(0, bad, t), -1);
                due("meet(" + bad + ", " + bad + ", " + t + ")", x.meet(bad, bad, t), -1);
            }
        }
    }

    private static void noStatementsAtFirst() {
        due("statements()", new LoopVersioner().statements(), 0);
        due("retract()", new LoopVersioner().retract(), -1);
        due("clear()", new LoopVersioner().clear(), 0);
        due("statement", new LoopVersioner().statement(MOVE, at(0), at(0), 0), 1);
        LoopVersioner x = new LoopVersioner();
        due("run(40)", x.run(40), 0);
        dueMemory("after run(40)", x);
    }

    private static void objectsApart() {
        LoopVersioner x = new LoopVersioner();
        LoopVersioner busy = withFullBody();
        due("statements()", x.statements(), 0);
        due("statements() of the busy one", busy.statements(), 5);
        due("total()", x.total(), 0);
        due("total() of the busy one", busy.total(), -77);
        due("a base", x.cellOf(ref(0, 0, 0), 0), 0);
        due("a base of the busy one", busy.cellOf(ref(0, 0, 0), 0), 63);
        dueMemory("beside a busy one", x);
        due("a cell of the busy one", busy.peek(0), 1001);
    }

    private static void operationOutside() {
        for (int op : outside(0, 7)) {
            due("op " + op, new LoopVersioner().statement(op, at(0), at(0), at(0)), -1);
        }
    }

    private static void operationInside() {
        for (int op = 0; op <= 7; op++) {
            due("op " + op, new LoopVersioner().statement(op, at(0), at(0), at(0)), 1);
        }
    }

    private static void targetNoReference() {
        for (int op = 0; op <= 7; op++) {
            for (int bad : NOT_REFERENCES) {
                due("op " + op + ", d " + bad, new LoopVersioner().statement(op, bad, at(0), at(0)), -2);
            }
        }
    }

    private static void targetOfSumNoReference() {
        for (int bad : NOT_REFERENCES) {
            due("SUM, d " + bad, new LoopVersioner().statement(SUM, bad, at(0), 1), -2);
        }
    }

    private static void sourceNoReference() {
        for (int op = 0; op <= 7; op++) {
            for (int bad : NOT_REFERENCES) {
                due("op " + op + ", u " + bad, new LoopVersioner().statement(op, at(0), bad, at(0)), -3);
            }
        }
    }

    private static void sourceOfCountNoReference() {
        for (int bad : NOT_REFERENCES) {
            due("COUNT, u " + bad, new LoopVersioner().statement(COUNT, at(0), bad, 1), -3);
        }
    }

    private static void secondNoReference() {
        for (int op = ADD; op <= XOR; op++) {
            for (int bad : NOT_REFERENCES) {
                due("op " + op + ", w " + bad, new LoopVersioner().statement(op, at(0), at(0), bad), -4);
            }
        }
    }

    private static void secondAnyInt() {
        for (int op : new int[] {MOVE, PLUS, SUM, COUNT}) {
            for (int w : EDGES) {
                due("op " + op + ", w " + w, new LoopVersioner().statement(op, at(0), at(0), w), 1);
            }
            for (int w : NOT_REFERENCES) {
                due("op " + op + ", w " + w, new LoopVersioner().statement(op, at(0), at(0), w), 1);
            }
        }
    }

    private static void sixthStatement() {
        LoopVersioner x = withFullBody();
        due("a sixth", x.statement(MOVE, at(0), at(0), 0), -5);
        due("a sixth again", x.statement(ADD, at(0), at(0), at(0)), -5);
        due("retract()", x.retract(), 4);
        due("a fifth in the room left", x.statement(MOVE, at(0), at(0), 0), 5);
        due("a sixth after it", x.statement(MOVE, at(0), at(0), 0), -5);
        due("clear()", x.clear(), 5);
        due("a first in the room left", x.statement(MOVE, at(0), at(0), 0), 1);
    }

    private static void howManyThereAreNow() {
        LoopVersioner x = new LoopVersioner();
        for (int n = 1; n <= 5; n++) {
            due("statement " + n, x.statement(MOVE, at(0), at(0), 0), n);
        }
    }

    private static void retractOfNone() {
        due("of a new object", new LoopVersioner().retract(), -1);
        LoopVersioner x = withTwoStatements();
        x.retract();
        x.retract();
        due("after the first is taken", x.retract(), -1);
        due("and again", x.retract(), -1);
        due("statements()", x.statements(), 0);
        due("statement after it", x.statement(MOVE, at(0), at(0), 0), 1);
        LoopVersioner y = withFullBody();
        y.clear();
        due("after clear()", y.retract(), -1);
    }

    private static void howManyAreLeft() {
        LoopVersioner x = withFullBody();
        for (int left = 4; left >= 0; left--) {
            due("retract()", x.retract(), left);
            due("statements()", x.statements(), left);
        }
    }

    private static void lastIsTaken() {
        LoopVersioner x = new LoopVersioner();
        for (int n = 0; n < 5; n++) {
            x.statement(PLUS, at(n), at(n), n + 1);
        }
        x.retract();
        x.run(1);
        dueMemory("of five", x, 1, 2, 3, 4);
    }

    private static LoopVersioner withStatements(int count) {
        LoopVersioner x = withoutBody();
        for (int n = 0; n < count; n++) {
            x.statement(PLUS, at(0), at(0), 1);
        }
        return x;
    }

    private static void clearOfEach() {
        for (int n = 0; n <= 5; n++) {
            int count = n;
            LoopVersioner x = withStatements(n);
            due("clear() of " + n, x.clear(), n);
            due("clear() after it", x.clear(), 0);
            dueSame("clear() of " + n, after(y -> y.clear(), () -> withStatements(count)),
                    BoundaryTest::withoutBody);
        }
    }

    private static void statementsOfEach() {
        LoopVersioner x = new LoopVersioner();
        for (int n = 0; n <= 5; n++) {
            due("with " + n, x.statements(), n);
            x.statement(MOVE, at(0), at(0), 0);
        }
        due("after a refused sixth", x.statements(), 5);
    }

    private static void baseOutside() {
        for (int r : outside(0, 3)) {
            due("base(" + r + ", 0)", new LoopVersioner().base(r, 0), -1);
            due("base(" + r + ", 63)", new LoopVersioner().base(r, 63), -1);
        }
    }

    private static void baseValueOutside() {
        for (int r = 0; r <= 3; r++) {
            for (int value : outside(0, 63)) {
                due("base(" + r + ", " + value + ")", new LoopVersioner().base(r, value), -2);
            }
        }
    }

    private static void baseBefore() {
        for (int r = 0; r <= 3; r++) {
            LoopVersioner x = new LoopVersioner();
            due("base(" + r + ", 63) of a new object", x.base(r, 63), 0);
            due("base(" + r + ", 63) again", x.base(r, 63), 63);
            due("base(" + r + ", 0)", x.base(r, 0), 63);
            due("base(" + r + ", 1)", x.base(r, 1), 0);
            due("base(" + r + ", 64) refused", x.base(r, 64), -2);
            due("base(" + r + ", 2)", x.base(r, 2), 1);
        }
    }

    private static void roundsOutside() {
        for (int t : outside(0, 40)) {
            due("run(" + t + ")", withFullBody().run(t), -1);
            due("run(" + t + ") of no body", new LoopVersioner().run(t), -1);
        }
    }

    private static void runOfNoRounds() {
        due("run(0)", withFullBody().run(0), -77);
        changesNothing("run(0)", x -> x.run(0));
    }

    private static void runOfFortyRounds() {
        LoopVersioner x = new LoopVersioner();
        x.statement(PLUS, at(0), at(0), 1);
        x.statement(SUM, at(0), at(0), 1);
        due("run(40)", x.run(40), 820);
        due("peek(0)", x.peek(0), 40);
        due("run(39)", x.run(39), 820 + 39 * 40 + 780);
        due("peek(0)", x.peek(0), 79);
    }

    private static void runOfAnEmptyBody() {
        due("run(40)", withoutBody().run(40), -77);
        dueSame("run(40)", after(x -> x.run(40), BoundaryTest::withoutBody), BoundaryTest::withoutBody);
    }

    private static void totalThatLooksRefused() {
        LoopVersioner x = new LoopVersioner();
        x.poke(0, 1);
        x.statement(SUM, at(0), at(0), -1);
        due("run(1)", x.run(1), -1);
        due("total()", x.total(), -1);
        due("run(2)", x.run(2), -3);
    }

    private static void pokeOutside() {
        for (int c : outside(0, 63)) {
            due("poke(" + c + ", 5)", new LoopVersioner().poke(c, 5), -1);
        }
    }

    private static void pokeAtTheEnds() {
        LoopVersioner x = new LoopVersioner();
        due("poke(0, -1)", x.poke(0, -1), 0);
        due("poke(63, LOW)", x.poke(63, LOW), 0);
        due("peek(0)", x.peek(0), -1);
        due("peek(63)", x.peek(63), LOW);
        for (int c = 1; c < 63; c++) {
            due("peek(" + c + ")", x.peek(c), 0);
        }
    }

    private static void fillWithoutBounds() {
        for (int first : EDGES) {
            for (int last : EDGES) {
                boolean good = 0 <= first && first <= last && last <= 63;
                due("fill(" + first + ", " + last + ", 1, 1)",
                        new LoopVersioner().fill(first, last, 1, 1), good ? 0 : -1);
            }
        }
    }

    private static void fillOfOneCell() {
        for (int c = 0; c < 64; c++) {
            LoopVersioner x = new LoopVersioner();
            due("fill(" + c + ", " + c + ", 8, 5)", x.fill(c, c, 8, 5), 0);
            for (int other = 0; other < 64; other++) {
                due("peek(" + other + ")", x.peek(other), other == c ? 8 : 0);
            }
        }
    }

    private static void fillOfAllCells() {
        LoopVersioner x = new LoopVersioner();
        due("fill(0, 63, 5, -2)", x.fill(0, 63, 5, -2), 0);
        for (int c = 0; c < 64; c++) {
            due("peek(" + c + ")", x.peek(c), 5 - 2 * c);
        }
    }

    private static void fillOfSome() {
        LoopVersioner x = new LoopVersioner();
        x.fill(0, 63, 7, 0);
        x.fill(1, 62, 100, 1);
        due("peek(0)", x.peek(0), 7);
        due("peek(1)", x.peek(1), 100);
        due("peek(62)", x.peek(62), 161);
        due("peek(63)", x.peek(63), 7);
    }

    private static void fillWraps() {
        LoopVersioner x = new LoopVersioner();
        x.fill(0, 3, HIGH - 1, 1);
        dueMemory("upwards", x, HIGH - 1, HIGH, LOW, LOW + 1);
        x.fill(0, 3, LOW + 1, -1);
        dueMemory("downwards", x, LOW + 1, LOW, HIGH, HIGH - 1);
        x.fill(0, 3, 1, LOW);
        dueMemory("with the step LOW", x, 1, LOW + 1, 1, LOW + 1);
        x.fill(0, 3, 0, HIGH);
        dueMemory("with the step HIGH", x, 0, HIGH, -2, HIGH - 2);
        x.fill(0, 3, 9, 0);
        dueMemory("with the step 0", x, 9, 9, 9, 9);
    }

    private static void peekOutside() {
        for (int c : outside(0, 63)) {
            due("peek(" + c + ")", withFullBody().peek(c), 0);
        }
    }

    private static void peekAtTheEnds() {
        LoopVersioner x = withoutBody();
        due("peek(0)", x.peek(0), 1001);
        due("peek(63)", x.peek(63), 1001 + 63 * 37);
    }

    private static void totalBefore() {
        LoopVersioner x = new LoopVersioner();
        due("setTotal(HIGH) of a new object", x.setTotal(HIGH), 0);
        due("setTotal(LOW)", x.setTotal(LOW), HIGH);
        due("setTotal(-1)", x.setTotal(-1), LOW);
        due("setTotal(-1) again", x.setTotal(-1), -1);
        due("setTotal(0)", x.setTotal(0), -1);
        due("total()", x.total(), 0);
    }

    private static void digestWeighsEachCell() {
        for (int c = 0; c < 64; c++) {
            LoopVersioner x = new LoopVersioner();
            x.poke(c, 3);
            due("digest(), 3 in cell " + c, x.digest(), 3 * (c + 1));
        }
    }

    private static void digestWraps() {
        LoopVersioner x = new LoopVersioner();
        x.poke(63, 1 << 26);
        due("64 * 2^26", x.digest(), 0);
        x.poke(63, 1 << 25);
        due("64 * 2^25", x.digest(), LOW);
        x.poke(63, 0);
        x.poke(1, HIGH);
        due("2 * HIGH", x.digest(), -2);
        x.poke(1, LOW);
        x.poke(0, HIGH);
        due("HIGH + 2 * LOW", x.digest(), HIGH);
        x.poke(1, 1);
        due("HIGH + 2 * 1", x.digest(), LOW + 1);
        x.fill(0, 63, HIGH, 0);
        due("2080 * HIGH", x.digest(), -2080);
        x.fill(0, 63, LOW, 0);
        due("2080 * LOW", x.digest(), 0);
    }

    private static void cellOfNoReference() {
        for (int bad : NOT_REFERENCES) {
            due("cellOf(" + bad + ", 0)", new LoopVersioner().cellOf(bad, 0), -1);
            due("cellOf(" + bad + ", 39)", new LoopVersioner().cellOf(bad, 39), -1);
        }
    }

    private static void cellOfRoundOutside() {
        for (int i : outside(0, 39)) {
            due("cellOf(48, " + i + ")", new LoopVersioner().cellOf(at(0), i), -2);
            due("cellOf(495, " + i + ")", new LoopVersioner().cellOf(495, i), -2);
        }
    }

    private static void cellOfFirstAndLastRound() {
        LoopVersioner x = new LoopVersioner();
        x.base(1, 10);
        due("round 0", x.cellOf(ref(1, 1, 5), 0), 15);
        due("round 39", x.cellOf(ref(1, 1, 5), 39), 54);
        due("round 39, backwards", x.cellOf(ref(1, -1, 5), 39), 40);
    }

    private static void spreadNoReference() {
        for (int bad : NOT_REFERENCES) {
            due("spread(" + bad + ", 0)", new LoopVersioner().spread(bad, 0), -1);
            due("spread(" + bad + ", 40)", new LoopVersioner().spread(bad, 40), -1);
        }
    }

    private static void spreadRoundsOutside() {
        for (int t : outside(0, 40)) {
            due("spread(48, " + t + ")", new LoopVersioner().spread(at(0), t), -2);
            due("spread(495, " + t + ")", new LoopVersioner().spread(495, t), -2);
        }
    }

    /** The strides 2 and -2 come round after 32 cells, 0 stands still, the others need more rounds. */
    private static void spreadOfEachStride() {
        int[] most = {40, 32, 40, 1, 40, 32, 40};
        for (int s = -3; s <= 3; s++) {
            LoopVersioner x = new LoopVersioner();
            x.base(2, 61);
            for (int t = 0; t <= 40; t++) {
                due("stride " + s + ", " + t + " rounds", x.spread(ref(2, s, 7), t), Math.min(t, most[s + 3]));
            }
        }
    }

    private static void spreadOfNoRounds() {
        for (int s = -3; s <= 3; s++) {
            due("stride " + s, new LoopVersioner().spread(ref(0, s, 0), 0), 0);
        }
    }

    private static void meetNoReference() {
        for (int bad : NOT_REFERENCES) {
            LoopVersioner x = new LoopVersioner();
            for (int t : new int[] {0, 40}) {
                due("meet(" + bad + ", 48, " + t + ")", x.meet(bad, at(0), t), -1);
                due("meet(48, " + bad + ", " + t + ")", x.meet(at(0), bad, t), -1);
                due("meet(" + bad + ", " + bad + ", " + t + ")", x.meet(bad, bad, t), -1);
            }
        }
    }

    private static void meetRoundsOutside() {
        for (int t : outside(0, 40)) {
            due("meet(48, 48, " + t + ")", new LoopVersioner().meet(at(0), at(0), t), -2);
            due("meet(48, 495, " + t + ")", new LoopVersioner().meet(at(0), 495, t), -2);
        }
    }

    private static void meetInNoRounds() {
        LoopVersioner x = new LoopVersioner();
        due("meet(48, 48, 0)", x.meet(at(0), at(0), 0), 0);
        due("meet(48, 48, 1)", x.meet(at(0), at(0), 1), 1);
        due("meet(48, 49, 1)", x.meet(at(0), at(1), 1), 0);
    }

    /** One stands on the cell that the other comes to in round n, so they meet from n + 1 rounds on. */
    private static void meetInTheLastRound() {
        for (int n = 0; n <= 39; n++) {
            LoopVersioner x = new LoopVersioner();
            x.base(1, n);
            int moving = ref(0, 1, 0);
            int standing = ref(1, 0, 0);
            due("met in round " + n, x.meet(moving, standing, n + 1), 1);
            due("met in round " + n + ", q and p", x.meet(standing, moving, n + 1), 1);
            due("not yet met in round " + n, x.meet(moving, standing, n), 0);
            due("not yet met in round " + n + ", q and p", x.meet(standing, moving, n), 0);
        }
    }

    private static void meetInOneRoundOrTwo() {
        LoopVersioner x = new LoopVersioner();
        due("in the same round", x.meet(ref(0, 1, 0), ref(0, -1, 4), 3), 1);
        due("in the same round, not yet", x.meet(ref(0, 1, 0), ref(0, -1, 4), 2), 0);
        due("in different rounds alone", x.meet(ref(0, 1, 0), ref(0, 1, 5), 6), 1);
        due("in different rounds alone, not yet", x.meet(ref(0, 1, 0), ref(0, 1, 5), 5), 0);
        due("in different rounds, head on", x.meet(ref(0, 1, 0), ref(0, -1, 5), 4), 1);
        due("never, odd and even", x.meet(ref(0, 2, 0), ref(0, 2, 1), 40), 0);
    }

    private static void meetRoundTheEnd() {
        LoopVersioner x = new LoopVersioner();
        x.base(1, 63);
        due("over 63 to 0", x.meet(ref(1, 1, 0), ref(0, 0, 0), 2), 1);
        due("over 63 to 0, not yet", x.meet(ref(1, 1, 0), ref(0, 0, 0), 1), 0);
        due("below 0 to 63", x.meet(ref(0, -1, 0), ref(1, 0, 0), 2), 1);
        due("below 0 to 63, not yet", x.meet(ref(0, -1, 0), ref(1, 0, 0), 1), 0);
        due("on cell 63", x.meet(ref(1, 0, 0), ref(1, 3, 0), 1), 1);
        due("on cell 0", x.meet(ref(0, 0, 0), ref(0, 3, 0), 1), 1);
        due("side by side, one on 63 and one on 0", x.meet(ref(1, 0, 0), ref(0, 0, 0), 40), 0);
    }

    private static void testTerms() {
        test("What it is", "An object is used for at most 512 calls", BoundaryTest::lastOf512Calls);
        test("Terms", "THE MEMORY has 64 cells, 0 .. 63", BoundaryTest::sixtyFourCells);
        test("Terms", "each an int", BoundaryTest::cellsAreInts);
        test("Terms", "each an int, all 0 at first", BoundaryTest::cellsAreZeroAtFirst);
        test("Terms", "There are four BASES, 0 .. 3, each 0 .. 63", BoundaryTest::fourBases);
        test("Terms", "each 0 .. 63, all 0 at first", BoundaryTest::basesAreZeroAtFirst);
        test("Terms", "one TOTAL, an int", BoundaryTest::totalIsAnInt);
        test("Terms", "one TOTAL, an int, 0 at first", BoundaryTest::totalIsZeroAtFirst);
        test("Terms", "A REFERENCE names a base r (0 .. 3), a stride s (-3 .. 3) and an offset o (0 .. 15)",
                BoundaryTest::partsOfAReference);
        test("Terms", "it is one of the numbers 0 .. 511", BoundaryTest::numbersThatAreReferences);
        test("Terms", "(number / 16) modulo 8 is not 7", BoundaryTest::strideDigitSeven);
        test("Terms", "modulo 64, the remainder in 0 .. 63", BoundaryTest::remainders);
        test("Terms", "In round i of the loop (i = 0, 1, ..) it means the cell",
                BoundaryTest::remaindersInARun);
        test("Terms", "THE BODY is a list of at most 5 STATEMENTS", BoundaryTest::atMostFiveStatements);
    }

    private static void testRunning() {
        test("Terms", "cells as they are then", BoundaryTest::cellsAsTheyAreThen);
        test("Terms", "all arithmetic wraps like that of ints: +", BoundaryTest::addWraps);
        test("Terms", "all arithmetic wraps like that of ints: -", BoundaryTest::subWraps);
        test("Terms", "all arithmetic wraps like that of ints: *", BoundaryTest::mulWraps);
        test("Terms", "all arithmetic wraps like that of ints: ^", BoundaryTest::xorOfEnds);
        test("Terms", "all arithmetic wraps like that of ints: cell u + w", BoundaryTest::plusWraps);
        test("Terms", "all arithmetic wraps like that of ints: cell u * w", BoundaryTest::sumWraps);
        test("Terms", "all arithmetic wraps like that of ints: w + i", BoundaryTest::countWraps);
        test("Terms", "MOVE 0: cell d becomes cell u", BoundaryTest::moveAtTheEnds);
        test("Terms", "w a number", BoundaryTest::secondPartAsANumber);
        test("Terms", "d plays no part", BoundaryTest::targetOfSum);
        test("Terms", "u plays no part", BoundaryTest::sourceOfCount);
        test("Terms", "does round 0, round 1, .., round t - 1", BoundaryTest::roundsFromZeroToTheLast);
        test("Terms", "RUNNING the loop for t rounds does round 0", BoundaryTest::eachRunBeginsWithRoundZero);
        test("Terms", "each round does the statements of the body in order", BoundaryTest::statementsInOrder);
    }

    private static void testRules() {
        test("Terms", "No question changes anything", BoundaryTest::questionsChangeNothing);
        test("Terms", "No question changes anything: asked again", BoundaryTest::questionsAnswerTheSameAgain);
        test("Terms", "A refused call changes nothing", BoundaryTest::refusedCallsChangeNothing);
        test("Terms", "A refused call changes nothing: body full or empty",
                BoundaryTest::refusedForTheBodyChangesNothing);
        test("Terms", "A refused call changes nothing: calls after it",
                BoundaryTest::goodCallsAfterRefusedOnes);
        test("Terms", "In every method the tests are made in the order named: statement",
                BoundaryTest::orderInStatement);
        test("Terms", "In every method the tests are made in the order named: base", BoundaryTest::orderInBase);
        test("Terms", "In every method the tests are made in the order named: cellOf",
                BoundaryTest::orderInCellOf);
        test("Terms", "In every method the tests are made in the order named: spread",
                BoundaryTest::orderInSpread);
        test("Terms", "In every method the tests are made in the order named: meet", BoundaryTest::orderInMeet);
    }

    private static void testBody() {
        test("Promise 1", "No statements at first", BoundaryTest::noStatementsAtFirst);
        test("Promise 1", "A new object", BoundaryTest::objectsApart);
        test("Promise 2", "-1 if op is not in 0 .. 7", BoundaryTest::operationOutside);
        test("Promise 2", "-1 if op is not in 0 .. 7: none of them", BoundaryTest::operationInside);
        test("Promise 2", "-2 if d is not a reference", BoundaryTest::targetNoReference);
        test("Promise 2", "-2 if d is not a reference (also where it plays no part)",
                BoundaryTest::targetOfSumNoReference);
        test("Promise 2", "-3 if u is not", BoundaryTest::sourceNoReference);
        test("Promise 2", "-3 if u is not (also where it plays no part)",
                BoundaryTest::sourceOfCountNoReference);
        test("Promise 2", "-4 if w is meant as a reference and is not one", BoundaryTest::secondNoReference);
        test("Promise 2", "as a number it may be any int", BoundaryTest::secondAnyInt);
        test("Promise 2", "-5 if there are 5 statements", BoundaryTest::sixthStatement);
        test("Promise 2", "otherwise answers how many there are now", BoundaryTest::howManyThereAreNow);
        test("Promise 3", "-1 if there is none", BoundaryTest::retractOfNone);
        test("Promise 3", "otherwise answers how many are left", BoundaryTest::howManyAreLeft);
        test("Promise 3", "Takes the last statement away", BoundaryTest::lastIsTaken);
        test("Promise 4", "Takes all statements away; answers how many there were", BoundaryTest::clearOfEach);
        test("Promise 5", "How many statements there are", BoundaryTest::statementsOfEach);
        test("Promise 6", "-1 if r is not in 0 .. 3", BoundaryTest::baseOutside);
        test("Promise 6", "-2 if value is not in 0 .. 63", BoundaryTest::baseValueOutside);
        test("Promise 6", "otherwise answers the base before", BoundaryTest::baseBefore);
        test("Promise 7", "-1 if t is not in 0 .. 40", BoundaryTest::roundsOutside);
        test("Promise 7", "-1 if t is not in 0 .. 40: no rounds", BoundaryTest::runOfNoRounds);
        test("Promise 7", "-1 if t is not in 0 .. 40: forty rounds", BoundaryTest::runOfFortyRounds);
        test("Promise 7", "Runs the loop: an empty body", BoundaryTest::runOfAnEmptyBody);
        test("Promise 7", "otherwise answers the total afterwards", BoundaryTest::totalThatLooksRefused);
    }

    private static void testMemory() {
        test("Promise 8", "-1 if c is not in 0 .. 63", BoundaryTest::pokeOutside);
        test("Promise 8", "otherwise 0", BoundaryTest::pokeAtTheEnds);
        test("Promise 9", "-1 unless 0 <= first <= last <= 63", BoundaryTest::fillWithoutBounds);
        test("Promise 9", "0 <= first <= last <= 63: one cell", BoundaryTest::fillOfOneCell);
        test("Promise 9", "0 <= first <= last <= 63: all cells", BoundaryTest::fillOfAllCells);
        test("Promise 9", "The cells first .. last", BoundaryTest::fillOfSome);
        test("Promise 9", "wrapping like ints", BoundaryTest::fillWraps);
        test("Promise 10", "0 if c is not in 0 .. 63", BoundaryTest::peekOutside);
        test("Promise 10", "What the cell holds", BoundaryTest::peekAtTheEnds);
        test("Promises 11, 12", "Sets the total; answers the total before", BoundaryTest::totalBefore);
        test("Promise 13", "over all cells c, of (c + 1) *", BoundaryTest::digestWeighsEachCell);
        test("Promise 13", "wrapping like ints", BoundaryTest::digestWraps);
    }

    private static void testReferences() {
        test("Promise 14", "-1 if ref is not a reference", BoundaryTest::cellOfNoReference);
        test("Promise 14", "-2 if i is not in 0 .. 39", BoundaryTest::cellOfRoundOutside);
        test("Promise 14", "-2 if i is not in 0 .. 39: the first and the last",
                BoundaryTest::cellOfFirstAndLastRound);
        test("Promise 15", "-1 if ref is not a reference", BoundaryTest::spreadNoReference);
        test("Promise 15", "-2 if t is not in 0 .. 40", BoundaryTest::spreadRoundsOutside);
        test("Promise 15", "How many different cells", BoundaryTest::spreadOfEachStride);
        test("Promise 15", "in the rounds 0 .. t-1: none", BoundaryTest::spreadOfNoRounds);
        test("Promise 16", "-1 if p or q is not a reference", BoundaryTest::meetNoReference);
        test("Promise 16", "-2 if t is not in 0 .. 40", BoundaryTest::meetRoundsOutside);
        test("Promise 16", "in the rounds 0 .. t-1: none", BoundaryTest::meetInNoRounds);
        test("Promise 16", "in the rounds 0 .. t-1: the last", BoundaryTest::meetInTheLastRound);
        test("Promise 16", "in the same round or in different ones", BoundaryTest::meetInOneRoundOrTwo);
        test("Promise 16", "mean a common cell: over the end", BoundaryTest::meetRoundTheEnd);
    }

    public static void main(String[] args) {
        testTerms();
        testRunning();
        testRules();
        testBody();
        testMemory();
        testReferences();
        System.out.println(broken == 0 ? "all boundary cases hold" : broken + " sentences are broken");
        if (broken != 0) {
            System.exit(1);
        }
    }
}
