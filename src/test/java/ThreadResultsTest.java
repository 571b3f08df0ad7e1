/** Promises 7, 8 and 9. */
final class ThreadResultsTest {
    public static void main(String[] args) {
        endsAtExit();
        endsAtAMissingLine();
        tired();
        threadsDiffer();
        strangers();
        Due.end();
    }

    private static void endsAtExit() {
        WarpMachine x = Op.machine(1, Op.EXIT, 0, 0, 0);
        x.run();
        Due.thread("EXIT alone", x, 0, 0, 1, 1);
        for (int before = 0; before < 32; before++) {
            WarpMachine y = new WarpMachine(1);
            Op.fill(y, before, Op.ADD, 0, 0, 0);
            Op.fill(y, 32 - before, Op.EXIT, 0, 5, 0);
            y.run();
            Due.thread("EXIT after " + before + " lines", y, 0, before, before + 1, 1);
        }
    }

    private static void endsAtAMissingLine() {
        for (int lines = 1; lines <= 32; lines++) {
            WarpMachine x = new WarpMachine(1);
            Op.fill(x, lines, Op.SELF, 0, 0, 0);
            x.run();
            Due.thread(lines + " lines", x, 0, lines, lines, 1);
        }
        for (int target = 1; target < 32; target++) {
            WarpMachine x = Op.machine(1, Op.GOTO, 0, target, 0);
            x.run();
            Due.thread("GOTO missing line " + target, x, 0, target, 1, 1);
            WarpMachine y = Op.machine(1, Op.ZERO, 0, target + 32, 0);
            y.run();
            Due.thread("ZERO missing line " + target, y, 0, target, 1, 1);
        }
    }

    private static void tired() {
        for (int round = 1; round <= 32; round++) {
            WarpMachine x = new WarpMachine(1);
            Op.fill(x, round - 1, Op.SELF, 0, 0, 0);
            x.emit(Op.GOTO, 0, 0, 0);
            Due.is("run() of a round of " + round, x.run(), 0);
            Due.thread("a round of " + round, x, 0, 48 % round, 48, 2);
        }
        // Lines past the 48th are not carried out.
        WarpMachine y = Op.machine(1, Op.SET, 1, 1, 0, Op.ADD, 0, 0, 1, Op.BUMP, 2, 1, 0, Op.GOTO, 0, 1, 0);
        y.run();
        Due.thread("48 lines", y, 0, 3, 48, 2);
        Due.regs("48 lines", y, 0, 16, 1, 0, 0);
        Due.outputs("48 lines", y, 0, 16);
    }

    private static void threadsDiffer() {
        WarpMachine x = Op.machine(4,
                Op.SELF, 0, 0, 0, Op.ZERO, 0, 6, 0, Op.SET, 1, 1, 0, Op.SUB, 0, 0, 1, Op.ZERO, 0, 9, 0, Op.GOTO, 0, 5, 0,
                Op.EXIT, 0, 0, 0);
        Due.is("run() of threads that differ", x.run(), 2);
        Due.thread("threads that differ", x, 0, 6, 3, 1);
        Due.thread("threads that differ", x, 1, 9, 5, 1);
        Due.thread("threads that differ", x, 2, 5, 48, 2);
        Due.thread("threads that differ", x, 3, 5, 48, 2);
    }

    private static void strangers() {
        for (int n = 1; n <= 8; n++) {
            WarpMachine x = Op.machine(n, Op.SELF, 0, 0, 0);
            for (int runs = 0; runs < 2; runs++) {
                for (int t = n; t < 12; t++) {
                    Due.thread("no such thread of " + n, x, t, -1, -1, -1);
                }
                for (int t : Due.FAR) {
                    Due.thread("no such thread of " + n, x, t, -1, -1, -1);
                }
                x.run();
            }
        }
    }
}
