/** Promise 3. */
final class ClearTest {
    public static void main(String[] args) {
        Due.sentence("Removes all lines");
        removesLines();
        Due.sentence("Removes all lines: of a full program");
        makesRoom();
        Due.sentence("Removes all lines: of a program without lines");
        clearsNothing();
        Due.sentence("Results of the last run stay");
        resultsStay();
        Due.sentence("Results of the last run stay: tired threads");
        tiredResultsStay();
        Due.sentence("input cells stay");
        inputsStay();
        Due.sentence("before the first run results stay as they were");
        beforeTheFirstRun();
        Due.end();
    }

    private static void removesLines() {
        for (int lines = 1; lines <= 32; lines++) {
            WarpMachine x = new WarpMachine(3);
            Op.fill(x, lines, Op.SET, 0, 5, 0);
            x.clear();
            Due.is("run() after clear()", x.run(), 3);
            Due.thread("run after clear", x, 2, 0, 0, 1);
            Due.regs("run after clear", x, 2, 0, 0, 0, 0);
        }
    }

    private static void makesRoom() {
        WarpMachine x = new WarpMachine(1);
        Op.fill(x, 32, Op.SET, 0, 1, 0);
        x.clear();
        for (int i = 1; i <= 32; i++) {
            Due.is("emit after clear", x.emit(Op.SET, 1, 2, 0), i);
        }
        Due.is("emit of a 33rd line after clear", x.emit(Op.SET, 1, 2, 0), -1);
        x.clear();
        x.emit(Op.SET, 1, 2, 0);
        x.run();
        Due.thread("no old line is left", x, 0, 1, 1, 1);
        Due.regs("no old line is left", x, 0, 0, 2, 0, 0);
    }

    private static void clearsNothing() {
        WarpMachine x = new WarpMachine(2);
        x.clear();
        x.clear();
        Due.is("emit after clear of no lines", x.emit(Op.SET, 1, 2, 0), 1);
        x.clear();
        x.clear();
        Due.is("run() after two clears", x.run(), 2);
        Due.thread("run after two clears", x, 1, 0, 0, 1);
    }

    private static void resultsStay() {
        WarpMachine x = Op.machine(2, Op.SELF, 0, 0, 0, Op.SET, 1, 6, 0, Op.BUMP, 0, 1, 0, Op.EXIT, 0, 0, 0);
        x.run();
        x.clear();
        for (int t = 0; t < 2; t++) {
            Due.thread("after clear", x, t, 3, 4, 1);
            Due.regs("after clear", x, t, t, 6, 0, 0);
        }
        Due.outputs("after clear", x, 0, 6, 1, 6);
    }

    private static void tiredResultsStay() {
        WarpMachine x = Op.machine(8, Op.SET, 3, 3, 0, Op.BUMP, 3, 3, 0, Op.GOTO, 0, 1, 0);
        x.run();
        x.clear();
        for (int t = 0; t < 8; t++) {
            Due.thread("tired, after clear", x, t, 2, 48, 2);
            Due.regs("tired, after clear", x, t, 0, 0, 0, 3);
        }
        Due.outputs("tired, after clear", x, 3, 8 * 24 * 3);
    }

    private static void inputsStay() {
        WarpMachine x = Op.machine(1, Op.EXIT, 0, 0, 0);
        x.input(0, 77);
        x.run();
        x.clear();
        x.emit(Op.LOAD, 2, 2, 0);
        x.run();
        Due.regs("inputs after clear", x, 0, 0, 0, 77, 0);
    }

    private static void beforeTheFirstRun() {
        WarpMachine x = Op.machine(1, Op.SET, 0, 1, 0);
        x.clear();
        Due.thread("clear before the first run", x, 0, 0, 0, 0);
        Due.regs("clear before the first run", x, 0, 0, 0, 0, 0);
        Due.outputs("clear before the first run", x);
    }
}
