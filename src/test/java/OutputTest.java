/** Promise 10. */
final class OutputTest {
    public static void main(String[] args) {
        Due.sentence("The output cell after the last run: each of the 16");
        everyCell();
        Due.sentence("The output cell cell & 15: too large");
        masked(16, 200);
        far(new int[][] {{256, 0}, {261, 5}, {65551, 15}, {Due.MAX - 1, 14}, {Due.MAX, 15}});
        Due.sentence("The output cell cell & 15: too small");
        masked(-200, -1);
        far(new int[][] {{-257, 15}, {-65536, 0}, {Due.MIN + 1, 1}, {Due.MIN, 0}});
        Due.sentence("after the last run: 0 before the first");
        beforeTheFirstRun();
        Due.sentence("after the last run: not the one before");
        lastRunAlone();
        Due.sentence("input cells are no output cells");
        inputsAreNotOutputs();
        Due.end();
    }

    /** A machine that has run and left 100 + cell in each output cell. */
    private static WarpMachine hundreds() {
        WarpMachine x = Op.machine(8, Op.SELF, 0, 0, 0, Op.SET, 1, 8, 0, Op.ADD, 2, 0, 1, Op.SET, 3, 100, 0,
                Op.ADD, 3, 3, 0, Op.BUMP, 0, 3, 0, Op.ADD, 3, 3, 1, Op.BUMP, 2, 3, 0);
        x.run();
        return x;
    }

    private static void everyCell() {
        WarpMachine x = hundreds();
        for (int cell = 0; cell < 16; cell++) {
            Due.is("output(" + cell + ")", x.output(cell), 100 + cell);
        }
    }

    private static void masked(int first, int last) {
        WarpMachine x = hundreds();
        for (int cell = first; cell <= last; cell++) {
            Due.is("output(" + cell + ")", x.output(cell), 100 + Math.floorMod(cell, 16));
        }
    }

    private static void far(int[][] pairs) {
        WarpMachine x = hundreds();
        for (int[] pair : pairs) {
            Due.is("output(" + pair[0] + ")", x.output(pair[0]), 100 + pair[1]);
        }
    }

    private static void beforeTheFirstRun() {
        WarpMachine x = Op.machine(8, Op.SET, 0, 1, 0, Op.BUMP, 0, 0, 0);
        for (int cell = -40; cell < 40; cell++) {
            Due.is("before a run: output(" + cell + ")", x.output(cell), 0);
        }
    }

    private static void lastRunAlone() {
        WarpMachine x = hundreds();
        x.clear();
        Due.is("output(1) after clear", x.output(1), 101);
        x.emit(Op.SET, 0, 5, 0);
        Due.is("output(15) after emit", x.output(15), 115);
        x.emit(Op.BUMP, 0, 0, 0);
        x.run();
        Due.outputs("another run", x, 5, 40);
        x.clear();
        x.run();
        Due.outputs("a run without lines", x);
    }

    private static void inputsAreNotOutputs() {
        WarpMachine x = Op.machine(1, Op.SET, 0, 2, 0, Op.BUMP, 0, 0, 0, Op.LOAD, 1, 0, 0);
        x.input(5, 50);
        Due.outputs("inputs before a run", x);
        x.run();
        Due.outputs("inputs don't show in outputs", x, 2, 2);
        Due.regs("outputs don't show in inputs", x, 0, 2, 0, 0, 0);
    }
}
