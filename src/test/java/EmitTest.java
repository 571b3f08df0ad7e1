/** Promise 2. */
final class EmitTest {
    public static void main(String[] args) {
        countsLines();
        refusesOps();
        refusesLine33();
        refusedLineChangesNothing();
        resultsStay();
        takesAnyOperands();
        Due.end();
    }

    private static void countsLines() {
        WarpMachine x = new WarpMachine(1);
        for (int op = 0; op <= 11; op++) {
            Due.is("emit(" + op + ")", x.emit(op, 0, 0, 0), op + 1);
        }
    }

    private static void refusesOps() {
        WarpMachine x = new WarpMachine(1);
        int[] ops = {-1, 12, 13, 16, 32, 267, Integer.MIN_VALUE, Integer.MAX_VALUE};
        for (int op : ops) {
            Due.is("emit(" + op + ")", x.emit(op, 1, 2, 3), -1);
        }
        Due.is("emit after refused ones", x.emit(Op.SET, 0, 0, 0), 1);
    }

    private static void refusesLine33() {
        WarpMachine x = new WarpMachine(1);
        for (int i = 1; i <= 32; i++) {
            Due.is("emit, line " + i, x.emit(Op.SET, 0, i, 0), i);
        }
        Due.is("emit of a 33rd line", x.emit(Op.SET, 0, 33, 0), -1);
        Due.is("emit of a 33rd line again", x.emit(Op.EXIT, 0, 0, 0), -1);
        Due.is("emit of a wrong op with 32 lines", x.emit(12, 0, 0, 0), -1);
        x.run();
        Due.thread("32 lines", x, 0, 32, 32, 1);
        Due.regs("32 lines", x, 0, 32, 0, 0, 0);
    }

    private static void refusedLineChangesNothing() {
        WarpMachine x = Op.machine(1, Op.SET, 1, 7, 0);
        x.emit(12, 2, 9, 0);
        x.emit(-1, 2, 9, 0);
        x.run();
        Due.thread("refused lines", x, 0, 1, 1, 1);
        Due.regs("refused lines", x, 0, 0, 7, 0, 0);
        x.emit(99, 0, 0, 0);
        Due.regs("refused line after a run", x, 0, 0, 7, 0, 0);
        Due.thread("refused line after a run", x, 0, 1, 1, 1);
    }

    private static void resultsStay() {
        WarpMachine x = Op.machine(2, Op.SET, 3, 40, 0, Op.BUMP, 0, 3, 0);
        x.run();
        Op.add(x, Op.SET, 3, 41, 0, Op.EXIT, 0, 0, 0);
        for (int t = 0; t < 2; t++) {
            Due.thread("after a later emit", x, t, 2, 2, 1);
            Due.regs("after a later emit", x, t, 0, 0, 0, 40);
        }
        Due.outputs("after a later emit", x, 0, 80);

        WarpMachine y = new WarpMachine(1);
        y.emit(Op.EXIT, 0, 0, 0);
        Due.thread("emit before the first run", y, 0, 0, 0, 0);
    }

    private static void takesAnyOperands() {
        WarpMachine x = Op.machine(1,
                Op.SET, -1, Integer.MIN_VALUE, 0,
                Op.SET, 4, Integer.MAX_VALUE, 0,
                Op.SUB, Integer.MAX_VALUE - 1, -1, Integer.MIN_VALUE);
        x.run();
        Due.regs("operands of any size", x, 0, Integer.MAX_VALUE, 0, 1, Integer.MIN_VALUE);
    }
}
