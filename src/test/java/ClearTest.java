/** Promise 3. */
final class ClearTest {
    public static void main(String[] args) {
        removesLines();
        makesRoom();
        resultsAndInputsStay();
        beforeTheFirstRun();
        Due.end();
    }

    private static void removesLines() {
        WarpMachine x = Op.machine(3, Op.SET, 0, 5, 0, Op.BUMP, 0, 0, 0);
        x.run();
        x.clear();
        Due.is("run() after clear()", x.run(), 3);
        Due.thread("run after clear", x, 2, 0, 0, 1);
        Due.regs("run after clear", x, 2, 0, 0, 0, 0);
        Due.outputs("run after clear", x);
    }

    private static void makesRoom() {
        WarpMachine x = new WarpMachine(1);
        Op.fill(x, 32, Op.SET, 0, 1, 0);
        x.clear();
        x.clear();
        Due.is("emit after clear", x.emit(Op.SET, 1, 2, 0), 1);
        x.run();
        Due.thread("no old line is left", x, 0, 1, 1, 1);
        Due.regs("no old line is left", x, 0, 0, 2, 0, 0);
    }

    private static void resultsAndInputsStay() {
        WarpMachine x = Op.machine(2, Op.SELF, 0, 0, 0, Op.SET, 1, 6, 0, Op.BUMP, 0, 1, 0, Op.EXIT, 0, 0, 0);
        x.input(0, 77);
        x.run();
        x.clear();
        for (int t = 0; t < 2; t++) {
            Due.thread("after clear", x, t, 3, 4, 1);
            Due.regs("after clear", x, t, t, 6, 0, 0);
        }
        Due.outputs("after clear", x, 0, 6, 1, 6);
        x.emit(Op.LOAD, 2, 2, 0);
        x.run();
        Due.regs("inputs after clear", x, 0, 0, 0, 77, 0);
    }

    private static void beforeTheFirstRun() {
        WarpMachine x = Op.machine(1, Op.SET, 0, 1, 0);
        x.clear();
        Due.thread("clear before the first run", x, 0, 0, 0, 0);
    }
}
