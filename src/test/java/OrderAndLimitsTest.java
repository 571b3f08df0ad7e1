/** Promise 11. */
final class OrderAndLimitsTest {
    public static void main(String[] args) {
        line48GoesOff();
        line48IsExit();
        line48JumpsAway();
        line49IsExit();
        noLines();
        strangersBeforeTheFirstRun();
        Due.end();
    }

    /** Goes round lines 0 to 15 once and then through all lines: 16 + lines steps if none jumps. */
    private static WarpMachine twiceThrough(int lines, int lastOp, int lastB) {
        WarpMachine x = Op.machine(2, Op.SET, 1, 1, 0, Op.ADD, 0, 0, 1);
        Op.fill(x, 12, Op.SELF, 3, 0, 0);
        // Register 0 is 1 in the first round and 2 in the second.
        Op.add(x, Op.SUB, 2, 0, 1, Op.ZERO, 2, 0, 0);
        Op.fill(x, lines - 17, Op.SELF, 3, 0, 0);
        x.emit(lastOp, 3, lastB, 0);
        return x;
    }

    private static void line48GoesOff() {
        WarpMachine x = twiceThrough(32, Op.SET, 6);
        Due.is("run(): the 48th line goes off", x.run(), 2);
        Due.thread("the 48th line goes off", x, 0, 32, 48, 1);
        Due.thread("the 48th line goes off", x, 1, 32, 48, 1);
        Due.is("the 48th line is carried out", x.reg(1, 3), 6);
    }

    private static void line48IsExit() {
        WarpMachine x = twiceThrough(32, Op.EXIT, 0);
        Due.is("run(): the 48th line is EXIT", x.run(), 2);
        Due.thread("the 48th line is EXIT", x, 0, 31, 48, 1);
    }

    /** Goes round until 47 lines are carried out; what is added then is carried out from the 48th on, at line 6. */
    private static WarpMachine busyFor47() {
        // 3 lines, 14 rounds of 3 lines, then ADD and ZERO.
        return Op.machine(1, Op.SET, 1, 1, 0, Op.SET, 0, -15, 0, Op.SET, 2, 0, 0,
                Op.ADD, 0, 0, 1, Op.ZERO, 0, 6, 0, Op.GOTO, 0, 3, 0);
    }

    private static void line48JumpsAway() {
        int[] ops = {Op.GOTO, Op.ZERO};
        for (int op : ops) {
            WarpMachine x = busyFor47();
            x.emit(op, 2, 20, 0);
            Due.is("run(): the 48th line jumps off", x.run(), 1);
            Due.thread("the 48th line jumps off", x, 0, 20, 48, 1);
            Due.regs("the 48th line jumps off", x, 0, 0, 1, 0, 0);
            WarpMachine y = busyFor47();
            y.emit(op, 2, 5, 0);
            Due.is("run(): the 48th line jumps to a line", y.run(), 0);
            Due.thread("the 48th line jumps to a line", y, 0, 5, 48, 2);
        }
    }

    private static void line49IsExit() {
        // An EXIT that would be the 49th line is not carried out.
        WarpMachine x = busyFor47();
        Op.add(x, Op.SET, 2, 9, 0, Op.EXIT, 0, 0, 0);
        Due.is("run(): the 49th line is EXIT", x.run(), 0);
        Due.thread("the 49th line is EXIT", x, 0, 7, 48, 2);
        Due.regs("the 49th line is EXIT", x, 0, 0, 1, 9, 0);
    }

    private static void noLines() {
        for (int n = 1; n <= 8; n++) {
            WarpMachine x = new WarpMachine(n);
            Due.is("run() with no lines", x.run(), n);
            for (int t = 0; t < n; t++) {
                Due.thread("no lines", x, t, 0, 0, 1);
            }
        }
    }

    private static void strangersBeforeTheFirstRun() {
        WarpMachine x = new WarpMachine(2);
        int[] threads = {-1, 2, 7, 8, Integer.MIN_VALUE, Integer.MAX_VALUE};
        for (int t : threads) {
            Due.thread("before the first run", x, t, -1, -1, -1);
        }
    }
}
