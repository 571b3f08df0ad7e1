/** The section "Terms": threads, registers, cells, the program, and how operands are read. */
final class TermsTest {
    private static final int MIN = Due.MIN;
    private static final int MAX = Due.MAX;

    /** Pairs of an operand and the register that it names. */
    private static final int[][] MASKED = {
            {0, 0}, {1, 1}, {2, 2}, {3, 3}, {4, 0}, {5, 1}, {7, 3}, {30, 2},
            {-1, 3}, {-2, 2}, {-3, 1}, {-4, 0}, {-5, 3}, {MIN, 0}, {MIN + 2, 2}, {MAX, 3}, {MAX - 2, 1}};

    public static void main(String[] args) {
        Due.sentence("THREADS are 0 to n-1");
        threads();
        Due.sentence("A thread has registers 0 to 3 (ints)");
        registers();
        Due.sentence("16 INPUT cells, 0 to 15");
        inputCells();
        Due.sentence("16 OUTPUT cells, 0 to 15");
        outputCells();
        Due.sentence("INPUT and OUTPUT cells are all 0 at the start");
        cellsBeginAt0();
        Due.sentence("THE PROGRAM is a row of at most 32 LINES, numbered from 0");
        programOf32();
        Due.sentence("ra is the register a & 3");
        raIsMasked();
        Due.sentence("rb is the register b & 3");
        rbIsMasked();
        Due.sentence("rc is the register c & 3");
        rcIsMasked();
        Due.sentence("a, b, c are the ints themselves");
        intsThemselves();
        Due.sentence("ADD wraps as in Java");
        addWraps();
        Due.sentence("SUB wraps as in Java");
        subWraps();
        Due.sentence("MUL wraps as in Java");
        mulWraps();
        Due.sentence("BUMP wraps as in Java");
        bumpWraps();
        Due.sentence("all operands are read before anything is written");
        operandsAreReadFirst();
        Due.end();
    }

    private static void threads() {
        for (int n = 1; n <= 8; n++) {
            WarpMachine x = Op.machine(n, Op.SELF, 0, 0, 0, Op.SET, 1, 1, 0, Op.BUMP, 0, 1, 0);
            Due.is("run() of " + n + " threads", x.run(), n);
            for (int cell = 0; cell < 16; cell++) {
                Due.is("runs of thread " + cell + " of " + n, x.output(cell), cell < n ? 1 : 0);
            }
            Due.thread("the first of " + n, x, 0, 3, 3, 1);
            Due.thread("the last of " + n, x, n - 1, 3, 3, 1);
            Due.thread("none of " + n, x, n, -1, -1, -1);
            Due.thread("none of " + n, x, -1, -1, -1, -1);
        }
    }

    private static void registers() {
        WarpMachine x = Op.machine(2, Op.SET, 0, MIN, 0, Op.SET, 1, MAX, 0, Op.SET, 2, -1, 0, Op.SET, 3, 65536, 0);
        x.run();
        Due.regs("four ints", x, 0, MIN, MAX, -1, 65536);
        Due.regs("four ints", x, 1, MIN, MAX, -1, 65536);
    }

    private static void inputCells() {
        for (int cell = 0; cell < 16; cell++) {
            WarpMachine x = Op.machine(1, Op.SET, 0, cell, 0, Op.LOAD, 1, 0, 0);
            for (int i = 0; i < 16; i++) {
                x.input(i, i == 0 ? MIN : i == 15 ? MAX : -1000 * i);
            }
            x.run();
            Due.is("input cell " + cell, x.reg(0, 1), cell == 0 ? MIN : cell == 15 ? MAX : -1000 * cell);
        }
    }

    private static void outputCells() {
        for (int cell = 0; cell < 16; cell++) {
            int[] values = {MIN, MAX, -7};
            for (int value : values) {
                WarpMachine x = Op.machine(1, Op.SET, 0, cell, 0, Op.SET, 1, value, 0, Op.BUMP, 0, 1, 0);
                x.run();
                Due.outputs("output cell " + cell, x, cell, value);
            }
        }
    }

    private static void cellsBeginAt0() {
        for (int cell = 0; cell < 16; cell++) {
            WarpMachine x = Op.machine(1, Op.SET, 0, cell, 0, Op.SET, 1, 9, 0, Op.LOAD, 1, 0, 0);
            Due.is("output cell " + cell + " at the start", x.output(cell), 0);
            x.run();
            Due.is("input cell " + cell + " at the start", x.reg(0, 1), 0);
        }
    }

    private static void programOf32() {
        for (int last = 0; last < 32; last++) {
            WarpMachine x = new WarpMachine(1);
            Op.fill(x, last, Op.SELF, 0, 0, 0);
            Op.add(x, Op.SET, 1, 5, 0);
            Op.fill(x, 31 - last, Op.SELF, 0, 0, 0);
            Due.is("a 33rd line", x.emit(Op.SET, 1, 6, 0), -1);
            x.run();
            Due.is("line " + last + " of 32 is carried out", x.reg(0, 1), 5);
            Due.thread("a program of 32 lines", x, 0, 32, 32, 1);
        }
        WarpMachine first = Op.machine(1, Op.EXIT, 0, 0, 0);
        first.run();
        Due.is("the first line's number", first.line(0), 0);
        WarpMachine last = Op.machine(1, Op.GOTO, 0, 31, 0);
        Op.fill(last, 30, Op.SELF, 0, 0, 0);
        last.emit(Op.EXIT, 0, 0, 0);
        last.run();
        Due.thread("the last line's number", last, 0, 31, 2, 1);
    }

    private static void raIsMasked() {
        for (int[] pair : MASKED) {
            int[] want = new int[4];
            want[pair[1]] = 77;
            WarpMachine x = Op.machine(1, Op.SET, pair[0], 77, 0);
            x.run();
            Due.regs("SET, a is " + pair[0], x, 0, want);
            WarpMachine y = Op.machine(1, Op.SET, pair[1], 3, 0, Op.BUMP, pair[0], pair[1], 0);
            y.run();
            Due.outputs("BUMP, a is " + pair[0], y, 3, 3);
            WarpMachine z = Op.machine(1, Op.SET, pair[1], 3, 0, Op.ZERO, pair[0], 9, 0);
            z.run();
            Due.thread("ZERO of another register than 0, a is " + pair[0], z, 0, 2, 2, 1);
            WarpMachine w = Op.machine(1);
            for (int r = 0; r < 4; r++) {
                w.emit(Op.SET, r, r == pair[1] ? 0 : 8, 0);
            }
            w.emit(Op.ZERO, pair[0], 9, 0);
            w.run();
            Due.thread("ZERO of a register that is 0, a is " + pair[0], w, 0, 9, 5, 1);
        }
        // Every op that writes a register writes the masked one.
        for (int op = Op.SET; op <= Op.LOAD; op++) {
            for (int[] pair : MASKED) {
                WarpMachine x = Op.machine(8, Op.SET, 0, 50, 0, Op.SET, 1, 51, 0, Op.SET, 2, 52, 0, Op.SET, 3, 53, 0);
                x.emit(op, pair[0], 1, 1);
                x.run();
                for (int r = 0; r < 4; r++) {
                    Due.is("op " + op + ", a is " + pair[0] + ": register " + r + " is kept",
                            x.reg(7, r) == 50 + r ? 1 : 0, r == pair[1] && !(op == Op.AND && r == 1) ? 0 : 1);
                }
            }
        }
    }

    /** Register 0 to 3 hold 10 to 13, then the row is carried out. */
    private static WarpMachine tens(int... row) {
        WarpMachine x = Op.machine(1, Op.SET, 0, 10, 0, Op.SET, 1, 11, 0, Op.SET, 2, 12, 0, Op.SET, 3, 13, 0);
        for (int cell = 10; cell < 14; cell++) {
            x.input(cell, 100 + cell);
        }
        Op.add(x, row);
        x.run();
        return x;
    }

    private static void rbIsMasked() {
        for (int[] pair : MASKED) {
            int b = pair[0];
            int rb = 10 + pair[1];
            Due.is("ADD, b is " + b, tens(Op.ADD, 2, b, 0).reg(0, 2), rb + 10);
            Due.is("SUB, b is " + b, tens(Op.SUB, 2, b, 0).reg(0, 2), rb - 10);
            Due.is("MUL, b is " + b, tens(Op.MUL, 2, b, 0).reg(0, 2), rb * 10);
            Due.is("AND, b is " + b, tens(Op.AND, 2, b, 0).reg(0, 2), rb & 10);
            Due.is("LESS, b is " + b, tens(Op.LESS, 2, b, 2).reg(0, 2), rb < 12 ? 1 : 0);
            Due.is("LOAD, b is " + b, tens(Op.LOAD, 2, b, 0).reg(0, 2), 100 + rb);
            Due.outputs("BUMP, b is " + b, tens(Op.BUMP, 2, b, 0), 12, rb);
        }
    }

    private static void rcIsMasked() {
        for (int[] pair : MASKED) {
            int c = pair[0];
            int rc = 10 + pair[1];
            Due.is("ADD, c is " + c, tens(Op.ADD, 2, 0, c).reg(0, 2), 10 + rc);
            Due.is("SUB, c is " + c, tens(Op.SUB, 2, 0, c).reg(0, 2), 10 - rc);
            Due.is("MUL, c is " + c, tens(Op.MUL, 2, 0, c).reg(0, 2), 10 * rc);
            Due.is("AND, c is " + c, tens(Op.AND, 2, 0, c).reg(0, 2), 10 & rc);
            Due.is("LESS, c is " + c, tens(Op.LESS, 2, 2, c).reg(0, 2), 12 < rc ? 1 : 0);
        }
    }

    private static void intsThemselves() {
        int[] values = {0, 1, 2, 3, 4, 15, 16, 31, 32, 255, 256, 65535, 65536, -1, -2, -128, -32769, MIN, MIN + 1, MAX};
        for (int value : values) {
            Due.is("SET to " + value, tens(Op.SET, 2, value, 0).reg(0, 2), value);
        }
        // Register 2 is 12, but the jump goes to line 6.
        Due.is("GOTO b, not rb", tens(Op.GOTO, 0, 6, 0).line(0), 6);
        WarpMachine x = Op.machine(1, Op.SET, 2, 12, 0, Op.ZERO, 0, 6, 0);
        x.run();
        Due.is("ZERO to b, not rb", x.line(0), 6);
    }

    /** What op leaves in register 0 with left in register 1 and right in register 2. */
    private static int result(int op, int left, int right) {
        WarpMachine x = Op.machine(1, Op.SET, 1, left, 0, Op.SET, 2, right, 0, op, 0, 1, 2);
        x.run();
        return x.reg(0, 0);
    }

    private static void addWraps() {
        Due.is("MAX + 1", result(Op.ADD, MAX, 1), MIN);
        Due.is("1 + MAX", result(Op.ADD, 1, MAX), MIN);
        Due.is("MIN + -1", result(Op.ADD, MIN, -1), MAX);
        Due.is("MAX + MAX", result(Op.ADD, MAX, MAX), -2);
        Due.is("MIN + MIN", result(Op.ADD, MIN, MIN), 0);
        Due.is("MAX + MIN", result(Op.ADD, MAX, MIN), -1);
        Due.is("MAX + 0", result(Op.ADD, MAX, 0), MAX);
    }

    private static void subWraps() {
        Due.is("MIN - 1", result(Op.SUB, MIN, 1), MAX);
        Due.is("MAX - -1", result(Op.SUB, MAX, -1), MIN);
        Due.is("0 - MIN", result(Op.SUB, 0, MIN), MIN);
        Due.is("MIN - MAX", result(Op.SUB, MIN, MAX), 1);
        Due.is("MAX - MIN", result(Op.SUB, MAX, MIN), -1);
        Due.is("-1 - MAX", result(Op.SUB, -1, MAX), MIN);
    }

    private static void mulWraps() {
        Due.is("MIN * -1", result(Op.MUL, MIN, -1), MIN);
        Due.is("MAX * 2", result(Op.MUL, MAX, 2), -2);
        Due.is("MAX * MAX", result(Op.MUL, MAX, MAX), 1);
        Due.is("MIN * MIN", result(Op.MUL, MIN, MIN), 0);
        Due.is("MIN * MAX", result(Op.MUL, MIN, MAX), MIN);
        Due.is("65536 * 65536", result(Op.MUL, 65536, 65536), 0);
        Due.is("65536 * 32768", result(Op.MUL, 65536, 32768), MIN);
        Due.is("46341 * 46341", result(Op.MUL, 46341, 46341), -2147479015);
        Due.is("MAX * -1", result(Op.MUL, MAX, -1), -MAX);
    }

    private static void bumpWraps() {
        int[][] twice = {{MAX, 1, MIN}, {MIN, -1, MAX}, {MAX, MAX, -2}, {MIN, MIN, 0}, {1, MAX, MIN}};
        for (int[] row : twice) {
            WarpMachine x = Op.machine(1, Op.SET, 1, row[0], 0, Op.SET, 2, row[1], 0,
                    Op.BUMP, 0, 1, 0, Op.BUMP, 0, 2, 0);
            x.run();
            Due.outputs("BUMP by " + row[0] + " and " + row[1], x, 0, row[2]);
        }
        WarpMachine y = Op.machine(8, Op.SET, 1, MAX, 0, Op.BUMP, 0, 1, 0);
        y.run();
        Due.outputs("BUMP by MAX in eight threads", y, 0, -8);
    }

    private static void operandsAreReadFirst() {
        int[][] rows = {
                {Op.ADD, 0, 0, 0, 14}, {Op.SUB, 0, 0, 0, 0}, {Op.MUL, 0, 0, 0, 49}, {Op.AND, 0, 0, 0, 7},
                {Op.LESS, 0, 0, 0, 0}, {Op.LOAD, 0, 0, 0, 70},
                {Op.ADD, 0, 0, 1, 12}, {Op.SUB, 0, 0, 1, 2}, {Op.MUL, 0, 0, 1, 35}, {Op.AND, 0, 0, 1, 5},
                {Op.LESS, 0, 0, 1, 0},
                {Op.ADD, 0, 1, 0, 12}, {Op.SUB, 0, 1, 0, -2}, {Op.MUL, 0, 1, 0, 35}, {Op.AND, 0, 1, 0, 5},
                {Op.LESS, 0, 1, 0, 1}};
        for (int[] row : rows) {
            WarpMachine x = Op.machine(1, Op.SET, 0, 7, 0, Op.SET, 1, 5, 0, row[0], row[1], row[2], row[3]);
            x.input(7, 70);
            x.run();
            Due.regs("op " + row[0] + " onto its own operand", x, 0, row[4], 5, 0, 0);
        }
        WarpMachine y = Op.machine(1, Op.SET, 2, 9, 0, Op.BUMP, 2, 2, 0, Op.BUMP, 2, 2, 0);
        y.run();
        Due.outputs("BUMP with one register for both", y, 9, 18);
    }
}
