/** The promises of the document, one method each, with answers worked out by hand. */
public final class PromiseTest {
    private static final int LOW = Integer.MIN_VALUE;
    private static final int HIGH = Integer.MAX_VALUE;
    private static final int[] NOT_REFERENCES = {
        LOW, -512, -16, -1, 112, 127, 240, 255, 368, 383, 496, 511, 512, 560, 624, 1024, HIGH
    };
    private static final int[] EDGE_REFERENCES = {
        0, 15, 16, 48, 96, 111, 128, 239, 256, 367, 384, 495
    };

    private static int wrong = 0;

    private static void due(String what, int got, int want) {
        if (got != want) {
            wrong++;
            System.out.println(what + " answered " + got + ", due is " + want);
        }
    }

    private static int ref(int r, int s, int o) {
        return 128 * r + 16 * (s + 3) + o;
    }

    /** A reference that means the same cell (0 .. 15, over base 0 at 0) in every round. */
    private static int at(int cell) {
        return ref(0, 0, cell);
    }

    private static void dueMemory(String what, LoopVersioner x, int... want) {
        for (int c = 0; c < 64; c++) {
            due(what + ": cell " + c, x.peek(c), c < want.length ? want[c] : 0);
        }
    }

    /** An object in which every part of the state differs from that of a new one. */
    private static LoopVersioner busy() {
        LoopVersioner x = new LoopVersioner();
        x.fill(0, 63, 100, 7);
        x.setTotal(-5);
        for (int r = 0; r < 4; r++) {
            x.base(r, 10 * r + 3);
        }
        x.statement(LoopVersioner.ADD, ref(0, 1, 2), ref(1, 2, 0), ref(2, -1, 5));
        x.statement(LoopVersioner.SUM, ref(0, 0, 0), ref(3, 1, 1), 3);
        return x;
    }

    /** Compares all that can be seen, and last what the bodies do. */
    private static void dueSame(String what, LoopVersioner x, LoopVersioner y) {
        due(what + ": statements", x.statements(), y.statements());
        due(what + ": total", x.total(), y.total());
        for (int r = 0; r < 4; r++) {
            due(what + ": base " + r, x.cellOf(ref(r, 0, 0), 0), y.cellOf(ref(r, 0, 0), 0));
        }
        for (int c = 0; c < 64; c++) {
            due(what + ": cell " + c, x.peek(c), y.peek(c));
        }
        due(what + ": run", x.run(9), y.run(9));
        due(what + ": digest after run", x.digest(), y.digest());
        for (int left = y.statements() - 1; left >= -1; left--) {
            due(what + ": retract", x.retract(), left);
        }
    }

    private static void promise1NewObject() {
        LoopVersioner x = new LoopVersioner();
        due("new: statements", x.statements(), 0);
        due("new: total", x.total(), 0);
        due("new: digest", x.digest(), 0);
        dueMemory("new", x);
        for (int r = 0; r < 4; r++) {
            due("new: base " + r, x.cellOf(ref(r, 0, 0), 0), 0);
        }
        due("new: run", x.run(40), 0);
        due("new: retract", x.retract(), -1);
        dueMemory("new after run", x);

        LoopVersioner other = busy();
        due("objects share nothing: statements", x.statements(), 0);
        dueMemory("objects share nothing", x);
        due("objects share nothing: total", other.total(), -5);
    }

    private static void promise2Refusals() {
        LoopVersioner x = busy();
        for (int op : new int[] {LOW, -8, -1, 8, 9, 16, HIGH}) {
            due("op " + op, x.statement(op, at(0), at(0), at(0)), -1);
            due("op " + op + " before d", x.statement(op, 112, 112, 112), -1);
        }
        for (int bad : NOT_REFERENCES) {
            for (int op = 0; op <= 7; op++) {
                String call = "op " + op + ", " + bad;
                boolean takesReference = op >= 1 && op <= 4;
                due(call + " as d", x.statement(op, bad, at(0), at(0)), -2);
                due(call + " as d, u and w", x.statement(op, bad, bad, bad), -2);
                due(call + " as u", x.statement(op, at(0), bad, at(0)), -3);
                due(call + " as u and w", x.statement(op, at(0), bad, bad), -3);
                due(call + " as w", x.statement(op, at(0), at(0), bad), takesReference ? -4 : 3);
                if (!takesReference) {
                    x.retract();
                }
            }
            dueSame("refused for " + bad, x, busy());
            x = busy();
        }
    }

    private static void promise2FullBody() {
        LoopVersioner x = new LoopVersioner();
        for (int n = 1; n <= 5; n++) {
            due("statement " + n, x.statement(LoopVersioner.PLUS, at(n), at(n), n), n);
        }
        due("a sixth", x.statement(LoopVersioner.PLUS, at(9), at(9), 9), -5);
        due("a sixth, bad op", x.statement(8, at(9), at(9), 9), -1);
        due("a sixth, bad d", x.statement(LoopVersioner.PLUS, 112, at(9), 9), -2);
        due("a sixth, bad u", x.statement(LoopVersioner.PLUS, at(9), 112, 9), -3);
        due("a sixth, bad w", x.statement(LoopVersioner.XOR, at(9), at(9), 112), -4);
        due("a sixth, w a number", x.statement(LoopVersioner.MOVE, at(9), at(9), 112), -5);
        due("still five", x.statements(), 5);
        x.run(2);
        dueMemory("five statements", x, 0, 2, 4, 6, 8, 10);
        for (int good : EDGE_REFERENCES) {
            x.clear();
            due("reference " + good, x.statement(LoopVersioner.ADD, good, good, good), 1);
        }
    }

    private static void promise3Retract() {
        LoopVersioner x = new LoopVersioner();
        due("retract of none", x.retract(), -1);
        due("none after it", x.statements(), 0);
        x.statement(LoopVersioner.PLUS, at(0), at(0), 1);
        x.statement(LoopVersioner.PLUS, at(1), at(1), 10);
        x.statement(LoopVersioner.PLUS, at(2), at(2), 100);
        due("retract of three", x.retract(), 2);
        x.run(1);
        dueMemory("the last one is gone", x, 1, 10);
        due("put after retract", x.statement(LoopVersioner.PLUS, at(3), at(3), 5), 3);
        x.run(1);
        dueMemory("the new last one", x, 2, 20, 0, 5);
        due("retract to two", x.retract(), 2);
        due("retract to one", x.retract(), 1);
        due("retract to none", x.retract(), 0);
        due("retract below none", x.retract(), -1);
        x.run(1);
        dueMemory("an empty body", x, 2, 20, 0, 5);
    }

    private static void promise4Clear() {
        LoopVersioner x = new LoopVersioner();
        due("clear of none", x.clear(), 0);
        LoopVersioner y = busy();
        int digest = y.digest();
        due("clear of two", y.clear(), 2);
        due("clear again", y.clear(), 0);
        due("none after clear", y.statements(), 0);
        due("retract after clear", y.retract(), -1);
        due("clear keeps the total", y.run(5), -5);
        due("clear keeps the memory", y.digest(), digest);
        due("clear keeps the bases", y.cellOf(ref(2, 0, 0), 0), 23);
        for (int n = 1; n <= 5; n++) {
            due("put after clear", y.statement(LoopVersioner.MOVE, at(0), at(1), 0), n);
        }
        due("clear of five", y.clear(), 5);
    }

    private static void promise5Statements() {
        LoopVersioner x = new LoopVersioner();
        for (int n = 0; n < 5; n++) {
            due("statements", x.statements(), n);
            due("statements again", x.statements(), n);
            x.statement(LoopVersioner.COUNT, at(n), at(n), n);
        }
        due("statements when full", x.statements(), 5);
        x.run(3);
        due("statements after run", x.statements(), 5);
        x.retract();
        due("statements after retract", x.statements(), 4);
    }

    private static void promise6Base() {
        LoopVersioner x = new LoopVersioner();
        for (int r = 0; r < 4; r++) {
            due("base first", x.base(r, 60 + r), 0);
        }
        for (int r = 0; r < 4; r++) {
            due("base in use", x.cellOf(ref(r, 0, 0), 7), 60 + r);
            due("base before", x.base(r, r), 60 + r);
            due("base before that", x.base(r, 63 - r), r);
        }
        LoopVersioner y = busy();
        for (int r : new int[] {LOW, -1, 4, 5, HIGH}) {
            due("base " + r, y.base(r, 0), -1);
            due("base " + r + " before the value", y.base(r, 64), -1);
        }
        for (int value : new int[] {LOW, -64, -1, 64, 65, 128, HIGH}) {
            due("base to " + value, y.base(3, value), -2);
        }
        dueSame("base refused", y, busy());
    }

    private static void promise7Rounds() {
        LoopVersioner x = busy();
        for (int t : new int[] {LOW, -40, -1, 41, 42, HIGH}) {
            due("run(" + t + ")", x.run(t), -1);
        }
        due("run(0)", x.run(0), -5);
        dueSame("run refused or of no rounds", x, busy());

        LoopVersioner y = new LoopVersioner();
        y.setTotal(-1);
        due("run of an empty body", y.run(40), -1);
        y.statement(LoopVersioner.PLUS, at(0), at(0), 1);
        y.run(40);
        due("forty rounds", y.peek(0), 40);
        y.run(1);
        due("one round", y.peek(0), 41);
    }

    private static int outcome(int op, int u, int w, int second) {
        LoopVersioner x = new LoopVersioner();
        x.poke(1, u);
        x.poke(2, second);
        x.statement(op, at(3), at(1), w);
        x.run(1);
        dueMemory("op " + op, x, 0, u, second, x.peek(3));
        return x.peek(3);
    }

    private static void promise7Operations() {
        due("MOVE", outcome(LoopVersioner.MOVE, 13, at(2), 6), 13);
        due("MOVE, any w", outcome(LoopVersioner.MOVE, LOW, HIGH, 6), LOW);
        due("ADD", outcome(LoopVersioner.ADD, 13, at(2), 6), 19);
        due("ADD wraps", outcome(LoopVersioner.ADD, HIGH, at(2), 1), LOW);
        due("SUB", outcome(LoopVersioner.SUB, 13, at(2), 6), 7);
        due("SUB wraps", outcome(LoopVersioner.SUB, LOW, at(2), 1), HIGH);
        due("MUL", outcome(LoopVersioner.MUL, 13, at(2), -6), -78);
        due("MUL wraps", outcome(LoopVersioner.MUL, 65537, at(2), 65537), 131073);
        due("XOR", outcome(LoopVersioner.XOR, 13, at(2), 6), 11);
        due("XOR of signs", outcome(LoopVersioner.XOR, LOW, at(2), -1), HIGH);
        due("PLUS", outcome(LoopVersioner.PLUS, 13, at(2), 6), 13 + at(2));
        due("PLUS wraps", outcome(LoopVersioner.PLUS, LOW, -1, 6), HIGH);
        due("SUM leaves d", outcome(LoopVersioner.SUM, 13, 5, 6), 0);
        due("COUNT", outcome(LoopVersioner.COUNT, 13, -9, 6), -9);
    }

    private static void promise7SumAndCount() {
        LoopVersioner x = new LoopVersioner();
        x.fill(0, 3, 10, 1);
        x.setTotal(1000);
        x.statement(LoopVersioner.SUM, at(9), ref(0, 1, 0), -3);
        due("SUM", x.run(4), 1000 - 3 * (10 + 11 + 12 + 13));
        due("SUM goes on", x.run(1), 862 - 30);
        due("the total after", x.total(), 832);
        dueMemory("SUM changes no cell", x, 10, 11, 12, 13);
        x.poke(0, 65536);
        x.clear();
        x.setTotal(HIGH);
        x.statement(LoopVersioner.SUM, at(9), at(0), 32768);
        due("SUM wraps", x.run(1), -1);

        LoopVersioner y = new LoopVersioner();
        y.setTotal(4);
        y.statement(LoopVersioner.COUNT, ref(0, 1, 1), at(0), HIGH - 1);
        due("COUNT leaves the total", y.run(4), 4);
        dueMemory("COUNT", y, 0, HIGH - 1, HIGH, LOW, LOW + 1);
        y.run(2);
        due("each run begins with round 0", y.peek(2), HIGH);
        due("and changes nothing more", y.peek(4), LOW + 1);
    }

    private static void promise7MovingReferences() {
        LoopVersioner x = new LoopVersioner();
        x.base(1, 3);
        x.base(2, 6);
        x.fill(0, 5, 1, 1);
        x.statement(LoopVersioner.SUB, ref(2, 1, 0), ref(0, 1, 0), ref(1, -1, 2));
        x.run(3);
        dueMemory("d and u go up, w goes down", x, 1, 2, 3, 4, 5, 6, 1 - 6, 2 - 5, 3 - 4);
    }

    private static void promise7Order() {
        LoopVersioner x = new LoopVersioner();
        x.fill(0, 4, 1, 1);
        x.statement(LoopVersioner.MOVE, ref(0, 1, 1), ref(0, 1, 0), 0);
        x.run(4);
        dueMemory("a round sees the one before", x, 1, 1, 1, 1, 1);
        x.fill(0, 4, 1, 1);
        x.clear();
        x.statement(LoopVersioner.MOVE, ref(0, 1, 0), ref(0, 1, 1), 0);
        x.run(4);
        dueMemory("a shift down", x, 2, 3, 4, 5, 5);

        LoopVersioner y = new LoopVersioner();
        y.poke(0, 3);
        y.statement(LoopVersioner.PLUS, at(1), at(0), 1);
        y.statement(LoopVersioner.MUL, at(0), at(1), at(1));
        y.statement(LoopVersioner.SUM, at(0), at(0), 1);
        due("a statement sees the one before", y.run(2), 16 + 289);
        dueMemory("statements in order", y, 289, 17);

        LoopVersioner z = new LoopVersioner();
        z.base(1, 62);
        z.statement(LoopVersioner.COUNT, ref(1, 1, 0), 0, 5);
        z.run(4);
        due("over the end", z.peek(63), 6);
        due("round the end", z.peek(1), 8);
        z.base(1, 0);
        z.run(2);
        due("the base as it is when run", z.peek(0), 5);
        due("the base as it is then", z.peek(1), 6);
    }

    private static void promise8Poke() {
        LoopVersioner x = new LoopVersioner();
        due("poke(0)", x.poke(0, LOW), 0);
        due("poke(63)", x.poke(63, HIGH), 0);
        due("poke(5)", x.poke(5, -1), 0);
        due("cell 0", x.peek(0), LOW);
        due("cell 63", x.peek(63), HIGH);
        due("cell 5", x.peek(5), -1);
        due("cell 6", x.peek(6), 0);
        due("poke again", x.poke(5, 8), 0);
        due("cell 5 again", x.peek(5), 8);
        LoopVersioner y = busy();
        for (int c : new int[] {LOW, -64, -1, 64, 128, HIGH}) {
            due("poke(" + c + ")", y.poke(c, 1), -1);
        }
        dueSame("poke refused", y, busy());
    }

    private static void promise9Fill() {
        LoopVersioner x = new LoopVersioner();
        due("fill", x.fill(2, 5, 7, -4), 0);
        dueMemory("fill", x, 0, 0, 7, 3, -1, -5);
        due("fill of one", x.fill(3, 3, 9, 100), 0);
        dueMemory("fill of one", x, 0, 0, 7, 9, -1, -5);
        due("fill of all", x.fill(0, 63, HIGH, HIGH), 0);
        for (int c = 0; c < 64; c++) {
            due("fill wraps: cell " + c, x.peek(c), HIGH - c + (c << 31));
        }
        due("fill at the edges", x.fill(0, 0, 1, 0) + x.fill(63, 63, 2, 0), 0);
        due("first cell", x.peek(0), 1);
        due("last cell", x.peek(63), 2);
        LoopVersioner y = busy();
        due("first below 0", y.fill(-1, 5, 0, 0), -1);
        due("first far below 0", y.fill(LOW, HIGH, 0, 0), -1);
        due("last above 63", y.fill(60, 64, 0, 0), -1);
        due("last far above 63", y.fill(0, HIGH, 0, 0), -1);
        due("both above 63", y.fill(64, 64, 0, 0), -1);
        due("both below 0", y.fill(-2, -1, 0, 0), -1);
        due("last before first", y.fill(8, 7, 0, 0), -1);
        due("far apart", y.fill(63, 0, 0, 0), -1);
        dueSame("fill refused", y, busy());
    }

    private static void promise10Peek() {
        LoopVersioner x = busy();
        for (int c = 0; c < 64; c++) {
            due("peek(" + c + ")", x.peek(c), 100 + 7 * c);
        }
        for (int c : new int[] {LOW, -64, -1, 64, 65, 128, HIGH}) {
            due("peek(" + c + ")", x.peek(c), 0);
        }
        dueSame("peek", x, busy());
    }

    private static void promises11And12Total() {
        LoopVersioner x = new LoopVersioner();
        due("setTotal first", x.setTotal(HIGH), 0);
        due("total", x.total(), HIGH);
        due("total again", x.total(), HIGH);
        due("setTotal", x.setTotal(LOW), HIGH);
        due("setTotal again", x.setTotal(-1), LOW);
        due("total below 0", x.total(), -1);
        LoopVersioner y = busy();
        y.run(6);
        int after = y.run(0);
        due("total after run", y.total(), after);
        due("setTotal after run", y.setTotal(-5), after);
        dueMemory("setTotal changes no cell", x);
    }

    private static void promise13Digest() {
        LoopVersioner x = new LoopVersioner();
        for (int c = 0; c < 64; c++) {
            x.poke(c, 10);
            due("digest, cell " + c, x.digest(), 10 * (c + 1));
            x.poke(c, 0);
        }
        x.fill(0, 63, 1, 0);
        due("digest of ones", x.digest(), 2080);
        x.fill(0, 63, -1, 0);
        due("digest of minus ones", x.digest(), -2080);
        x.fill(0, 63, HIGH, 0);
        due("digest wraps", x.digest(), -2080);
        x.fill(0, 63, 0, 0);
        x.poke(2, HIGH);
        due("digest wraps once", x.digest(), HIGH - 2);
        LoopVersioner y = busy();
        y.digest();
        dueSame("digest", y, busy());
    }

    private static void promise14CellOf() {
        LoopVersioner x = busy();
        due("cellOf", x.cellOf(ref(1, 2, 5), 4), 13 + 5 + 8);
        due("cellOf below 0", x.cellOf(ref(0, -3, 1), 39), 15);
        due("cellOf at 0", x.cellOf(ref(0, -2, 1), 2), 0);
        due("cellOf at -1", x.cellOf(ref(0, -1, 0), 4), 63);
        due("cellOf over 63", x.cellOf(ref(3, 3, 15), 39), 37);
        x.base(3, 63);
        due("cellOf at 63", x.cellOf(ref(3, 0, 0), 39), 63);
        due("cellOf at 64", x.cellOf(ref(3, 1, 0), 1), 0);
        due("cellOf over 128", x.cellOf(ref(3, 3, 15), 39), 3);
        x.base(3, 33);
        for (int bad : NOT_REFERENCES) {
            due("cellOf(" + bad + ")", x.cellOf(bad, 0), -1);
            due("cellOf(" + bad + ") before the round", x.cellOf(bad, 40), -1);
        }
        for (int i : new int[] {LOW, -1, 40, 41, HIGH}) {
            due("cellOf in round " + i, x.cellOf(at(0), i), -2);
        }
        dueSame("cellOf", x, busy());
    }

    private static void promise15Spread() {
        LoopVersioner x = busy();
        int[] atForty = {40, 32, 40, 1, 40, 32, 40};
        for (int s = -3; s <= 3; s++) {
            due("spread of no rounds", x.spread(ref(1, s, 4), 0), 0);
            due("spread of one round", x.spread(ref(1, s, 4), 1), 1);
            due("spread of forty, stride " + s, x.spread(ref(1, s, 4), 40), atForty[s + 3]);
        }
        due("spread, stride 2, before it comes round", x.spread(ref(2, 2, 0), 31), 31);
        due("spread, stride 2, all the way", x.spread(ref(2, 2, 0), 32), 32);
        due("spread, stride -2, come round", x.spread(ref(2, -2, 0), 33), 32);
        due("spread, stride 3", x.spread(ref(2, 3, 0), 22), 22);
        for (int bad : NOT_REFERENCES) {
            due("spread(" + bad + ")", x.spread(bad, 5), -1);
            due("spread(" + bad + ") before the rounds", x.spread(bad, 41), -1);
        }
        for (int t : new int[] {LOW, -1, 41, 64, HIGH}) {
            due("spread in " + t + " rounds", x.spread(at(0), t), -2);
        }
        dueSame("spread", x, busy());
    }

    private static void promise16Meet() {
        LoopVersioner x = busy();
        int up = ref(0, 1, 0);
        due("meet itself, no round", x.meet(up, up, 0), 0);
        due("meet itself", x.meet(up, up, 1), 1);
        due("meet in different rounds", x.meet(up, ref(0, 0, 4), 5), 1);
        due("meet the other way", x.meet(ref(0, 0, 4), up, 5), 1);
        due("meet a round too late", x.meet(up, ref(0, 0, 4), 4), 0);
        due("meet over two bases", x.meet(up, ref(1, 0, 0), 11), 1);
        due("meet over two bases, too late", x.meet(up, ref(1, 0, 0), 10), 0);
        due("meet head on", x.meet(up, ref(1, -1, 0), 6), 1);
        due("meet head on, too late", x.meet(up, ref(1, -1, 0), 5), 0);
        due("odd and even never meet", x.meet(ref(0, 2, 0), ref(0, -2, 1), 40), 0);
        due("odd and odd meet", x.meet(ref(0, 2, 1), ref(0, -2, 1), 1), 1);
        x.base(1, 63);
        due("meet at cell 63", x.meet(ref(1, 0, 0), ref(1, -1, 0), 3), 1);
        due("meet round the end", x.meet(ref(0, -1, 0), ref(1, 0, 0), 5), 1);
        due("meet round the end, too late", x.meet(ref(0, -1, 0), ref(1, 0, 0), 4), 0);
        x.base(1, 13);
        for (int bad : NOT_REFERENCES) {
            due("meet, p " + bad, x.meet(bad, up, 5), -1);
            due("meet, q " + bad, x.meet(up, bad, 5), -1);
            due("meet, both " + bad, x.meet(bad, bad, 0), -1);
            due("meet, p " + bad + " before t", x.meet(bad, up, 41), -1);
            due("meet, q " + bad + " before t", x.meet(up, bad, -1), -1);
        }
        for (int t : new int[] {LOW, -1, 41, 64, HIGH}) {
            due("meet in " + t + " rounds", x.meet(up, up, t), -2);
        }
        dueSame("meet", x, busy());
    }

    /** The example of README.md, call by call; whoever changes one changes the other. */
    private static void readmeExample() {
        LoopVersioner loop = new LoopVersioner();
        int from = 128 * 0 + 16 * (1 + 3) + 0;
        int to = 128 * 1 + 16 * (1 + 3) + 0;
        due("README: fill", loop.fill(0, 9, 1, 1), 0);
        due("README: base", loop.base(1, 32), 0);
        due("README: statement ADD", loop.statement(LoopVersioner.ADD, to, from, from), 1);
        due("README: statement SUM", loop.statement(LoopVersioner.SUM, to, to, 1), 2);
        due("README: run(10)", loop.run(10), 110);
        due("README: peek(41)", loop.peek(41), 20);
        due("README: cellOf(to, 9)", loop.cellOf(to, 9), 41);
        due("README: spread(to, 10)", loop.spread(to, 10), 10);
        due("README: meet(from, to, 10)", loop.meet(from, to, 10), 0);
        due("README: meet(from, to, 40)", loop.meet(from, to, 40), 1);
        due("README: run(41)", loop.run(41), -1);
        due("README: the total after it", loop.total(), 110);
    }

    public static void main(String[] args) {
        promise1NewObject();
        promise2Refusals();
        promise2FullBody();
        promise3Retract();
        promise4Clear();
        promise5Statements();
        promise6Base();
        promise7Rounds();
        promise7Operations();
        promise7SumAndCount();
        promise7MovingReferences();
        promise7Order();
        promise8Poke();
        promise9Fill();
        promise10Peek();
        promises11And12Total();
        promise13Digest();
        promise14CellOf();
        promise15Spread();
        promise16Meet();
        readmeExample();
        System.out.println(wrong == 0 ? "all promises hold" : wrong + " answers are not as due");
        if (wrong != 0) {
            System.exit(1);
        }
    }
}
