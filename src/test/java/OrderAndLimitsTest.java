/** Promise 11. */
final class OrderAndLimitsTest {
    public static void main(String[] args) {
        Due.sentence("48th line goes on with a line that is not there: the next line");
        line48GoesOff();
        Due.sentence("48th line goes on with a line that is not there: the next line after 32");
        line48IsTheLastOf32();
        Due.sentence("48th line goes on with a line that is not there: GOTO");
        line48JumpsOff(Op.GOTO);
        Due.sentence("48th line goes on with a line that is not there: ZERO");
        line48JumpsOff(Op.ZERO);
        Due.sentence("48th line goes on with a line that is there: tired");
        line48GoesOn();
        Due.sentence("the 48th line is EXIT");
        line48IsExit();
        Due.sentence("the 49th line would be EXIT");
        line49IsExit();
        Due.sentence("with no lines every thread ends at line 0 with 0 steps");
        noLines();
        Due.sentence("line answers -1 also before the first run");
        lineBeforeTheFirstRun();
        Due.sentence("steps answers -1 also before the first run");
        stepsBeforeTheFirstRun();
        Due.sentence("state answers -1 also before the first run");
        stateBeforeTheFirstRun();
        Due.end();
    }

    private static void line48GoesOff() {
        for (int op = Op.SET; op <= Op.BUMP; op++) {
            WarpMachine x = Op.busy(2, 47);
            x.emit(op, 3, 1, 1);
            Due.is("run(): the 48th line goes off", x.run(), 2);
            Due.thread("the 48th line goes off", x, 0, Op.busyEnd(47) + 1, 48, 1);
            Due.thread("the 48th line goes off", x, 1, Op.busyEnd(47) + 1, 48, 1);
        }
        WarpMachine y = Op.busy(1, 47);
        y.emit(Op.SET, 3, 6, 0);
        y.run();
        Due.regs("the 48th line is carried out", y, 0, 0, 1, 0, 6);
        WarpMachine z = Op.busy(1, 47);
        z.emit(Op.ZERO, 1, 0, 0);
        z.run();
        Due.thread("the 48th line is a ZERO that doesn't jump", z, 0, Op.busyEnd(47) + 1, 48, 1);
    }

    private static void line48IsTheLastOf32() {
        // Lines 0 to 15 twice, as register 0 is 1 in the first round and 2 in the second, then 16 to 31.
        WarpMachine x = Op.machine(2, Op.SET, 1, 1, 0, Op.ADD, 0, 0, 1);
        Op.fill(x, 12, Op.SELF, 3, 0, 0);
        Op.add(x, Op.SUB, 2, 0, 1, Op.ZERO, 2, 0, 0);
        Op.fill(x, 15, Op.SELF, 3, 0, 0);
        Due.is("emit of the last line", x.emit(Op.SET, 3, 6, 0), 32);
        Due.is("run(): 32 lines", x.run(), 2);
        Due.thread("32 lines", x, 0, 32, 48, 1);
        Due.thread("32 lines", x, 1, 32, 48, 1);
        Due.is("the 48th line is carried out", x.reg(1, 3), 6);
    }

    private static void line48JumpsOff(int op) {
        int lines = Op.busyEnd(47) + 1;
        for (int target = lines; target < 32; target++) {
            WarpMachine x = Op.busy(1, 47);
            x.emit(op, 0, target, 0);
            Due.is("run(): the 48th line jumps to " + target, x.run(), 1);
            Due.thread("the 48th line jumps to " + target, x, 0, target, 48, 1);
            Due.regs("the 48th line jumps to " + target, x, 0, 0, 1, 0, 0);
        }
    }

    private static void line48GoesOn() {
        WarpMachine x = Op.busy(1, 47);
        Op.add(x, Op.SELF, 3, 0, 0, Op.SELF, 3, 0, 0);
        Due.is("run(): the 48th line goes on", x.run(), 0);
        Due.thread("the 48th line goes on", x, 0, Op.busyEnd(47) + 1, 48, 2);
        int[] jumps = {Op.GOTO, Op.ZERO};
        for (int op : jumps) {
            for (int target = 0; target <= Op.busyEnd(47); target++) {
                WarpMachine y = Op.busy(1, 47);
                y.emit(op, 0, target, 0);
                Due.is("run(): the 48th line jumps to " + target, y.run(), 0);
                Due.thread("the 48th line jumps to " + target, y, 0, target, 48, 2);
            }
        }
    }

    private static void line48IsExit() {
        WarpMachine x = Op.busy(2, 47);
        Op.add(x, Op.EXIT, 0, 0, 0, Op.SELF, 0, 0, 0);
        Due.is("run(): the 48th line is EXIT", x.run(), 2);
        Due.thread("the 48th line is EXIT", x, 0, Op.busyEnd(47), 48, 1);
        Due.thread("the 48th line is EXIT", x, 1, Op.busyEnd(47), 48, 1);
    }

    private static void line49IsExit() {
        WarpMachine x = Op.busy(1, 47);
        Op.add(x, Op.SET, 2, 9, 0, Op.EXIT, 0, 0, 0);
        Due.is("run(): the 49th line is EXIT", x.run(), 0);
        Due.thread("the 49th line is EXIT", x, 0, Op.busyEnd(47) + 1, 48, 2);
        Due.regs("the 49th line is EXIT", x, 0, 0, 1, 9, 0);
    }

    private static void noLines() {
        for (int n = 1; n <= 8; n++) {
            WarpMachine x = new WarpMachine(n);
            for (int runs = 0; runs < 2; runs++) {
                Due.is("run() with no lines", x.run(), n);
                for (int t = 0; t < n; t++) {
                    Due.thread("no lines", x, t, 0, 0, 1);
                    Due.regs("no lines", x, t, 0, 0, 0, 0);
                }
            }
        }
        // Also where an earlier run has left other lines and steps.
        WarpMachine y = Op.machine(8, Op.SELF, 0, 0, 0, Op.ZERO, 0, 1, 0);
        y.run();
        y.clear();
        Due.is("run() with no lines left", y.run(), 8);
        for (int t = 0; t < 8; t++) {
            Due.thread("no lines left", y, t, 0, 0, 1);
        }
    }

    private static void lineBeforeTheFirstRun() {
        for (int n = 1; n <= 8; n++) {
            WarpMachine x = new WarpMachine(n);
            Due.each("of " + n + ": line", x::line, Due.BELOW_THREADS, -1);
            Due.each("of " + n + ": line", x::line, Due.aboveThreads(n), -1);
        }
    }

    private static void stepsBeforeTheFirstRun() {
        for (int n = 1; n <= 8; n++) {
            WarpMachine x = new WarpMachine(n);
            Due.each("of " + n + ": steps", x::steps, Due.BELOW_THREADS, -1);
            Due.each("of " + n + ": steps", x::steps, Due.aboveThreads(n), -1);
        }
    }

    private static void stateBeforeTheFirstRun() {
        for (int n = 1; n <= 8; n++) {
            WarpMachine x = new WarpMachine(n);
            Due.each("of " + n + ": state", x::state, Due.BELOW_THREADS, -1);
            Due.each("of " + n + ": state", x::state, Due.aboveThreads(n), -1);
        }
    }
}
