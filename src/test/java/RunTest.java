/** Promise 5, with the ops and the run as the Terms tell them. */
final class RunTest {
    private static final int MIN = Integer.MIN_VALUE;
    private static final int MAX = Integer.MAX_VALUE;

    public static void main(String[] args) {
        arithmetic();
        operandsAreReadFirst();
        self();
        load();
        bump();
        jumps();
        zeroLooksAtTheWholeRegister();
        countsTheEnded();
        everyRunBeginsAnew();
        Due.end();
    }

    /** What op leaves in register 0 with left in register 1 and right in register 2. */
    private static int result(int op, int left, int right) {
        WarpMachine x = Op.machine(1, Op.SET, 1, left, 0, Op.SET, 2, right, 0, op, 0, 1, 2);
        x.run();
        Due.is("op " + op + " keeps rb", x.reg(0, 1), left);
        Due.is("op " + op + " keeps rc", x.reg(0, 2), right);
        Due.thread("op " + op, x, 0, 3, 3, 1);
        return x.reg(0, 0);
    }

    private static void arithmetic() {
        int[] values = {0, 1, -1, 2, 7, -7, 65536, 46341, MIN, MIN + 1, MAX, MAX - 1};
        for (int left : values) {
            for (int right : values) {
                String of = " of " + left + " and " + right;
                Due.is("ADD" + of, result(Op.ADD, left, right), (int) ((long) left + right));
                Due.is("SUB" + of, result(Op.SUB, left, right), (int) ((long) left - right));
                Due.is("MUL" + of, result(Op.MUL, left, right), (int) ((long) left * right));
                Due.is("AND" + of, result(Op.AND, left, right), left & right);
                Due.is("LESS" + of, result(Op.LESS, left, right), (long) left < right ? 1 : 0);
            }
        }
    }

    private static void operandsAreReadFirst() {
        WarpMachine x = Op.machine(1,
                Op.SET, 0, 3, 0, Op.ADD, 0, 0, 0, Op.MUL, 0, 0, 0,
                Op.SET, 1, 5, 0, Op.SUB, 1, 0, 1, Op.LESS, 1, 1, 0);
        x.run();
        Due.regs("target among the operands", x, 0, 36, 1, 0, 0);
    }

    private static void self() {
        WarpMachine x = Op.machine(8, Op.SELF, 2, 5, 5);
        Due.is("SELF: run()", x.run(), 8);
        for (int t = 0; t < 8; t++) {
            Due.regs("SELF", x, t, 0, 0, t, 0);
        }
    }

    private static void load() {
        int[][] cells = {{0, 0}, {15, 15}, {16, 0}, {-1, 15}, {21, 5}, {MIN, 0}, {MAX, 15}};
        for (int[] pair : cells) {
            WarpMachine x = Op.machine(1, Op.SET, 1, pair[0], 0, Op.LOAD, 2, 1, 3);
            for (int cell = 0; cell < 16; cell++) {
                x.input(cell, 50 + cell);
            }
            x.run();
            Due.regs("LOAD of cell " + pair[0], x, 0, 0, pair[0], 50 + pair[1], 0);
        }
        WarpMachine y = Op.machine(1, Op.SET, 0, 3, 0, Op.LOAD, 0, 0, 0, Op.LOAD, 0, 0, 0);
        y.input(3, 6);
        y.input(6, -8);
        y.run();
        Due.regs("LOAD over its own operand", y, 0, -8, 0, 0, 0);
    }

    private static void bump() {
        int[][] cells = {{0, 0}, {15, 15}, {16, 0}, {-1, 15}, {21, 5}, {MIN, 0}, {MAX, 15}};
        for (int[] pair : cells) {
            WarpMachine x = Op.machine(1, Op.SET, 3, pair[0], 0, Op.SET, 1, -9, 0, Op.BUMP, 3, 1, 2);
            x.run();
            Due.outputs("BUMP of cell " + pair[0], x, pair[1], -9);
            Due.regs("BUMP writes no register", x, 0, 0, -9, 0, pair[0]);
        }
        WarpMachine y = Op.machine(2, Op.SET, 1, MAX, 0, Op.BUMP, 0, 1, 0, Op.BUMP, 0, 1, 0);
        y.run();
        Due.outputs("BUMP wraps over all threads", y, 0, -4);
        WarpMachine z = Op.machine(8, Op.SELF, 0, 0, 0, Op.BUMP, 0, 0, 0, Op.BUMP, 1, 0, 0);
        z.input(1, 1000);
        z.run();
        Due.outputs("BUMP by thread", z, 0, 28, 1, 1, 2, 2, 3, 3, 4, 4, 5, 5, 6, 6, 7, 7);
    }

    private static void jumps() {
        int[] targets = {2, 34, 2 - 32, MIN + 2, 2 + 1024};
        for (int target : targets) {
            WarpMachine x = Op.machine(1, Op.GOTO, 1, target, 3, Op.SET, 0, 1, 0, Op.SET, 1, 2, 0);
            x.run();
            Due.thread("GOTO " + target, x, 0, 3, 2, 1);
            Due.regs("GOTO " + target, x, 0, 0, 2, 0, 0);
            WarpMachine y = Op.machine(1, Op.ZERO, 1, target, 3, Op.SET, 0, 1, 0, Op.SET, 1, 2, 0);
            y.run();
            Due.thread("ZERO " + target, y, 0, 3, 2, 1);
            Due.regs("ZERO " + target, y, 0, 0, 2, 0, 0);
        }
        // The jumps look at the int b, not at the register b & 3.
        WarpMachine z = Op.machine(1, Op.SET, 2, 9, 0, Op.GOTO, 0, 2, 0, Op.EXIT, 0, 0, 0);
        z.run();
        Due.thread("GOTO goes to b, not rb", z, 0, 2, 3, 1);
        // GOTO doesn't look at ra.
        WarpMachine w = Op.machine(1, Op.SET, 0, 1, 0, Op.GOTO, 0, 3, 0, Op.EXIT, 0, 0, 0, Op.EXIT, 0, 0, 0);
        w.run();
        Due.thread("GOTO with ra not 0", w, 0, 3, 3, 1);
    }

    private static void zeroLooksAtTheWholeRegister() {
        int[] values = {1, -1, 4, 16, 32, 65536, MIN, MAX};
        for (int value : values) {
            WarpMachine x = Op.machine(1, Op.SET, 3, value, 0, Op.ZERO, 3, 3, 0, Op.EXIT, 0, 0, 0, Op.EXIT, 0, 0, 0);
            x.run();
            Due.thread("ZERO of " + value, x, 0, 2, 3, 1);
        }
    }

    private static void countsTheEnded() {
        // Threads less than r go round for ever.
        for (int r = 0; r <= 8; r++) {
            WarpMachine x = Op.machine(8,
                    Op.SELF, 0, 0, 0, Op.SET, 1, r, 0, Op.LESS, 2, 0, 1, Op.ZERO, 2, 5, 0, Op.GOTO, 0, 4, 0);
            Due.is("run() with " + r + " tired threads", x.run(), 8 - r);
            for (int t = 0; t < 8; t++) {
                Due.thread(r + " tired", x, t, t < r ? 4 : 5, t < r ? 48 : 4, t < r ? 2 : 1);
            }
        }
        WarpMachine y = Op.machine(3, Op.EXIT, 0, 0, 0);
        Due.is("run() of 3 threads", y.run(), 3);
        WarpMachine z = Op.machine(3, Op.GOTO, 0, 0, 0);
        Due.is("run() of 3 tired threads", z.run(), 0);
    }

    private static void everyRunBeginsAnew() {
        WarpMachine x = Op.machine(2,
                Op.SET, 1, 1, 0, Op.ADD, 0, 0, 1, Op.ADD, 2, 2, 1, Op.ADD, 3, 3, 1, Op.BUMP, 1, 0, 0, Op.ADD, 1, 1, 1);
        for (int i = 0; i < 3; i++) {
            Due.is("run() again", x.run(), 2);
            Due.regs("run again", x, 0, 1, 2, 1, 1);
            Due.regs("run again", x, 1, 1, 2, 1, 1);
            Due.outputs("run again", x, 1, 2);
            Due.thread("run again", x, 1, 6, 6, 1);
        }
        x.clear();
        x.emit(Op.GOTO, 0, 0, 0);
        Due.is("a tired run after ended ones", x.run(), 0);
        Due.thread("a tired run after ended ones", x, 0, 0, 48, 2);
        x.clear();
        x.emit(Op.EXIT, 0, 0, 0);
        Due.is("an ended run after a tired one", x.run(), 2);
        Due.thread("an ended run after a tired one", x, 0, 0, 1, 1);
        Due.regs("an ended run after a tired one", x, 0, 0, 0, 0, 0);
    }
}
