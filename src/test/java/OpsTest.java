/** The section "Terms": the table of the ops, each with its own edges. */
final class OpsTest {
    private static final int MIN = Due.MIN;
    private static final int MAX = Due.MAX;
    private static final int[] VALUES = {0, 1, -1, 2, 7, -7, 65536, 46341, MIN, MIN + 1, MAX, MAX - 1};

    /** Pairs of a number and the cell that it names. */
    private static final int[][] CELLS = {
            {0, 0}, {1, 1}, {14, 14}, {15, 15}, {16, 0}, {17, 1}, {31, 15}, {32, 0}, {261, 5},
            {-1, 15}, {-15, 1}, {-16, 0}, {-17, 15}, {MIN, 0}, {MIN + 3, 3}, {MAX, 15}, {MAX - 4, 11}};

    /** Pairs of a number and the line that it names. */
    private static final int[][] LINES = {
            {2, 2}, {30, 30}, {31, 31}, {34, 2}, {63, 31}, {66, 2}, {1026, 2},
            {-1, 31}, {-2, 30}, {-30, 2}, {-33, 31}, {MIN + 2, 2}, {MIN + 31, 31}, {MAX, 31}, {MAX - 1, 30}};

    public static void main(String[] args) {
        Due.sentence("SET: ra = b");
        set();
        Due.sentence("ADD, SUB, MUL, AND: ra = rb op rc");
        arithmetic();
        Due.sentence("LESS: ra = 1 if rb < rc, else 0");
        less();
        Due.sentence("SELF: ra = the thread's number");
        self();
        Due.sentence("LOAD: ra = the input cell rb & 15");
        load();
        Due.sentence("BUMP: the output cell ra & 15 becomes its value plus rb");
        bump();
        Due.sentence("GOTO goes on with line b & 31");
        gotoIsMasked();
        Due.sentence("ZERO: if ra is 0, goes on with line b & 31");
        zeroIsMasked();
        Due.sentence("ZERO: else with the next line");
        zeroOfOthers();
        Due.sentence("EXIT: the thread ends here");
        exit();
        Due.end();
    }

    private static void set() {
        for (int value : VALUES) {
            for (int target = 0; target < 4; target++) {
                int[] want = {60, 61, 62, 63};
                want[target] = value;
                WarpMachine x = Op.machine(1, Op.SET, 0, 60, 0, Op.SET, 1, 61, 0, Op.SET, 2, 62, 0, Op.SET, 3, 63, 0);
                x.emit(Op.SET, target, value, 1);
                x.run();
                Due.regs("SET " + target + " to " + value, x, 0, want);
            }
        }
    }

    /** What op leaves in register 0 with left in register 1 and right in register 2. */
    private static int result(int op, int left, int right) {
        WarpMachine x = Op.machine(1, Op.SET, 0, 99, 0, Op.SET, 1, left, 0, Op.SET, 2, right, 0, op, 0, 1, 2);
        x.run();
        Due.is("op " + op + " keeps rb", x.reg(0, 1), left);
        Due.is("op " + op + " keeps rc", x.reg(0, 2), right);
        Due.is("op " + op + " keeps the register it doesn't name", x.reg(0, 3), 0);
        Due.outputs("op " + op + " writes no output cell", x);
        Due.thread("op " + op, x, 0, 4, 4, 1);
        return x.reg(0, 0);
    }

    private static void arithmetic() {
        for (int left : VALUES) {
            for (int right : VALUES) {
                String of = " of " + left + " and " + right;
                Due.is("ADD" + of, result(Op.ADD, left, right), (int) ((long) left + right));
                Due.is("SUB" + of, result(Op.SUB, left, right), (int) ((long) left - right));
                Due.is("MUL" + of, result(Op.MUL, left, right), (int) ((long) left * right));
                Due.is("AND" + of, result(Op.AND, left, right), left & right);
            }
        }
    }

    private static void less() {
        for (int left : VALUES) {
            for (int right : VALUES) {
                String of = "LESS of " + left + " and " + right;
                Due.is(of, result(Op.LESS, left, right), (long) left < right ? 1 : 0);
            }
        }
        // The difference of these wraps, the comparison doesn't.
        Due.is("LESS of MIN and MAX", result(Op.LESS, MIN, MAX), 1);
        Due.is("LESS of MAX and MIN", result(Op.LESS, MAX, MIN), 0);
        Due.is("LESS of MIN and 1", result(Op.LESS, MIN, 1), 1);
        Due.is("LESS of equals", result(Op.LESS, 5, 5), 0);
    }

    private static void self() {
        for (int n = 1; n <= 8; n++) {
            WarpMachine x = Op.machine(n, Op.SET, 2, -5, 0, Op.SELF, 2, 5, 5);
            x.run();
            for (int t = 0; t < n; t++) {
                Due.regs("SELF of " + t + " in " + n, x, t, 0, 0, t, 0);
            }
        }
    }

    private static void load() {
        for (int[] pair : CELLS) {
            WarpMachine x = Op.machine(1, Op.SET, 1, pair[0], 0, Op.SET, 2, -3, 0, Op.LOAD, 2, 1, 3);
            for (int cell = 0; cell < 16; cell++) {
                x.input(cell, 50 + cell);
            }
            x.run();
            Due.regs("LOAD of cell " + pair[0], x, 0, 0, pair[0], 50 + pair[1], 0);
            Due.outputs("LOAD writes no output cell", x);
        }
    }

    private static void bump() {
        for (int[] pair : CELLS) {
            WarpMachine x = Op.machine(1, Op.SET, 3, pair[0], 0, Op.SET, 1, -9, 0, Op.BUMP, 3, 1, 2, Op.BUMP, 3, 1, 2);
            x.run();
            Due.outputs("BUMP of cell " + pair[0], x, pair[1], -18);
            Due.regs("BUMP writes no register", x, 0, 0, -9, 0, pair[0]);
        }
        WarpMachine y = Op.machine(8, Op.SELF, 0, 0, 0, Op.BUMP, 0, 0, 0, Op.BUMP, 1, 0, 0);
        y.input(1, 1000);
        y.run();
        Due.outputs("BUMP by thread", y, 0, 28, 1, 1, 2, 2, 3, 3, 4, 4, 5, 5, 6, 6, 7, 7);
    }

    /** The jump at line 0 and after it 31 lines, each an EXIT. */
    private static WarpMachine jumpAmongExits(int op, int a, int b) {
        WarpMachine x = Op.machine(1, op, a, b, 3);
        Op.fill(x, 31, Op.EXIT, 0, 0, 0);
        return x;
    }

    private static void gotoIsMasked() {
        for (int[] pair : LINES) {
            WarpMachine x = jumpAmongExits(Op.GOTO, 1, pair[0]);
            x.run();
            Due.thread("GOTO " + pair[0], x, 0, pair[1], 2, 1);
            Due.regs("GOTO writes no register", x, 0, 0, 0, 0, 0);
            // It doesn't look at ra.
            WarpMachine y = Op.machine(1, Op.SET, 1, 1, 0, Op.GOTO, 1, pair[0], 0);
            Op.fill(y, 30, Op.EXIT, 0, 0, 0);
            y.run();
            Due.thread("GOTO " + pair[0] + " with ra not 0", y, 0, pair[1], 3, 1);
        }
        int[] toLine0 = {0, 32, -32, 64, MIN};
        for (int b : toLine0) {
            WarpMachine x = jumpAmongExits(Op.GOTO, 0, b);
            x.run();
            Due.thread("GOTO " + b, x, 0, 0, 48, 2);
        }
    }

    private static void zeroIsMasked() {
        for (int[] pair : LINES) {
            WarpMachine x = jumpAmongExits(Op.ZERO, 2, pair[0]);
            x.run();
            Due.thread("ZERO to " + pair[0], x, 0, pair[1], 2, 1);
            Due.regs("ZERO writes no register", x, 0, 0, 0, 0, 0);
        }
        int[] toLine0 = {0, 32, -32, 64, MIN};
        for (int b : toLine0) {
            WarpMachine x = jumpAmongExits(Op.ZERO, 0, b);
            x.run();
            Due.thread("ZERO to " + b, x, 0, 0, 48, 2);
        }
    }

    private static void zeroOfOthers() {
        int[] values = {1, -1, 2, 4, 16, 32, 256, 65536, MIN, MIN + 1, MAX};
        for (int value : values) {
            WarpMachine x = Op.machine(1, Op.SET, 3, value, 0, Op.ZERO, 3, 3, 0, Op.EXIT, 0, 0, 0, Op.EXIT, 0, 0, 0);
            x.run();
            Due.thread("ZERO of " + value, x, 0, 2, 3, 1);
            Due.regs("ZERO keeps ra", x, 0, 0, 0, 0, value);
        }
    }

    private static void exit() {
        int[] operands = {0, 1, 5, -1, MIN, MAX};
        for (int operand : operands) {
            WarpMachine x = Op.machine(2, Op.SET, 0, 4, 0, Op.EXIT, operand, operand, operand, Op.SET, 0, 5, 0,
                    Op.BUMP, 0, 0, 0);
            Due.is("run() of EXIT", x.run(), 2);
            Due.thread("EXIT", x, 1, 1, 2, 1);
            Due.regs("EXIT writes no register", x, 1, 4, 0, 0, 0);
            Due.outputs("nothing goes on after EXIT", x);
        }
    }
}
