/** Promise 2. */
final class EmitTest {
    private static final int[] TOO_SMALL = {-1, -2, -5, -11, -12, -16, -245, Due.MIN + 1, Due.MIN};
    private static final int[] TOO_LARGE = {12, 13, 15, 16, 17, 32, 256, 267, 65536, Due.MAX - 1, Due.MAX};

    public static void main(String[] args) {
        Due.sentence("Adds a line at the end");
        addsAtTheEnd();
        Due.sentence("Answers -1 if op is not from 0 to 11: too small");
        refuses(TOO_SMALL);
        Due.sentence("Answers -1 if op is not from 0 to 11: too large");
        refuses(TOO_LARGE);
        Due.sentence("an op from 0 to 11 is taken, 0 and 11 too");
        takesOps();
        Due.sentence("Answers -1 if there are 32 lines");
        refusesLine33();
        Due.sentence("changes nothing if op is not from 0 to 11: the program");
        wrongOpKeepsTheProgram();
        Due.sentence("changes nothing if there are 32 lines: the program");
        fullKeepsTheProgram();
        Due.sentence("changes nothing when refused: results and inputs");
        refusedKeepsResults();
        Due.sentence("else the number of lines then");
        countsLines();
        Due.sentence("Results of the last run stay");
        resultsStay();
        Due.sentence("before the first run results stay as they were");
        beforeTheFirstRun();
        Due.sentence("operands may be any ints");
        takesAnyOperands();
        Due.end();
    }

    private static void addsAtTheEnd() {
        WarpMachine x = Op.machine(1, Op.SET, 0, 2, 0);
        x.run();
        Due.regs("one line", x, 0, 2, 0, 0, 0);
        x.emit(Op.MUL, 0, 0, 0);
        x.run();
        Due.regs("two lines", x, 0, 4, 0, 0, 0);
        x.emit(Op.ADD, 1, 0, 0);
        x.run();
        Due.regs("three lines", x, 0, 4, 8, 0, 0);
        Due.thread("three lines", x, 0, 3, 3, 1);
    }

    private static void refuses(int[] ops) {
        for (int op : ops) {
            WarpMachine x = new WarpMachine(1);
            Due.is("emit(" + op + ") into no lines", x.emit(op, 1, 2, 3), -1);
            Due.is("emit after it", x.emit(Op.SET, 0, 0, 0), 1);
            Due.is("emit(" + op + ") after a line", x.emit(op, 0, 0, 0), -1);
            Op.fill(x, 30, Op.SET, 0, 0, 0);
            Due.is("emit(" + op + ") into 31 lines", x.emit(op, 0, 0, 0), -1);
            Due.is("emit of the 32nd line after it", x.emit(Op.SET, 0, 0, 0), 32);
            Due.is("emit(" + op + ") into 32 lines", x.emit(op, 0, 0, 0), -1);
        }
    }

    private static void takesOps() {
        for (int op = 0; op <= 11; op++) {
            WarpMachine x = new WarpMachine(1);
            Due.is("emit(" + op + ")", x.emit(op, 0, 0, 0), 1);
        }
    }

    private static WarpMachine full() {
        WarpMachine x = new WarpMachine(1);
        Op.fill(x, 31, Op.SELF, 0, 0, 0);
        x.emit(Op.SET, 1, 5, 0);
        return x;
    }

    private static void refusesLine33() {
        for (int op = 0; op <= 11; op++) {
            WarpMachine x = full();
            Due.is("emit(" + op + ") of a 33rd line", x.emit(op, 0, 0, 0), -1);
            Due.is("emit(" + op + ") of a 33rd line again", x.emit(op, 0, 0, 0), -1);
        }
    }

    private static void wrongOpKeepsTheProgram() {
        int[][] both = {TOO_SMALL, TOO_LARGE};
        for (int[] ops : both) {
            for (int op : ops) {
                WarpMachine x = Op.machine(1, Op.SET, 1, 7, 0);
                x.emit(op, 2, 9, 0);
                x.run();
                Due.thread("after emit(" + op + ")", x, 0, 1, 1, 1);
                Due.regs("after emit(" + op + ")", x, 0, 0, 7, 0, 0);
                // The next line comes where the refused one would have been.
                x.emit(Op.SET, 3, 8, 0);
                x.run();
                Due.thread("a line after emit(" + op + ")", x, 0, 2, 2, 1);
                Due.regs("a line after emit(" + op + ")", x, 0, 0, 7, 0, 8);
            }
        }
    }

    private static void fullKeepsTheProgram() {
        int[] ops = {Op.SET, Op.GOTO, Op.EXIT, -1, 12};
        for (int op : ops) {
            WarpMachine x = full();
            for (int i = 0; i < 40; i++) {
                x.emit(op, 1, 6, 0);
            }
            x.run();
            Due.thread("a 33rd line of op " + op, x, 0, 32, 32, 1);
            Due.regs("a 33rd line of op " + op, x, 0, 0, 5, 0, 0);
        }
    }

    private static void refusedKeepsResults() {
        int[] ops = {-1, 12, Due.MIN, Due.MAX};
        for (int op : ops) {
            WarpMachine x = Op.machine(2, Op.LOAD, 0, 0, 0, Op.SET, 3, 40, 0, Op.BUMP, 0, 3, 0);
            x.input(0, 9);
            x.run();
            x.emit(op, 0, 0, 0);
            Due.thread("after emit(" + op + ")", x, 1, 3, 3, 1);
            Due.regs("after emit(" + op + ")", x, 1, 9, 0, 0, 40);
            Due.outputs("after emit(" + op + ")", x, 9, 80);
            x.run();
            Due.regs("inputs after emit(" + op + ")", x, 1, 9, 0, 0, 40);
        }
        WarpMachine y = full();
        y.run();
        y.emit(Op.EXIT, 0, 0, 0);
        Due.thread("after emit into 32 lines", y, 0, 32, 32, 1);
        Due.regs("after emit into 32 lines", y, 0, 0, 5, 0, 0);
    }

    private static void countsLines() {
        WarpMachine x = new WarpMachine(1);
        for (int i = 1; i <= 32; i++) {
            Due.is("emit, line " + i, x.emit(i % 12, 0, i, 0), i);
        }
    }

    private static void resultsStay() {
        WarpMachine x = Op.machine(2, Op.SET, 3, 40, 0, Op.BUMP, 0, 3, 0);
        x.run();
        Op.add(x, Op.SET, 3, 41, 0, Op.EXIT, 0, 0, 0);
        for (int t = 0; t < 2; t++) {
            Due.thread("after a later emit", x, t, 2, 2, 1);
            Due.regs("after a later emit", x, t, 0, 0, 0, 40);
        }
        Due.outputs("after a later emit", x, 0, 80);

        WarpMachine y = Op.machine(8, Op.GOTO, 0, 0, 0);
        y.run();
        y.emit(Op.EXIT, 0, 0, 0);
        for (int t = 0; t < 8; t++) {
            Due.thread("tired, after a later emit", y, t, 0, 48, 2);
        }
    }

    private static void beforeTheFirstRun() {
        WarpMachine x = new WarpMachine(2);
        Op.add(x, Op.EXIT, 0, 0, 0, 12, 0, 0, 0);
        Due.thread("emit before the first run", x, 0, 0, 0, 0);
        Due.thread("emit before the first run", x, 1, 0, 0, 0);
    }

    private static void takesAnyOperands() {
        WarpMachine x = Op.machine(1,
                Op.SET, -1, Due.MIN, 0,
                Op.SET, 4, Due.MAX, 0,
                Op.SUB, Due.MAX - 1, -1, Due.MIN);
        Due.is("emit with operands far off", x.emit(Op.EXIT, Due.MIN, Due.MAX, -1), 4);
        x.run();
        Due.regs("operands of any size", x, 0, Due.MAX, 0, 1, Due.MIN);
    }
}
