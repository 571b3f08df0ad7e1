/** Promise 7. */
final class LineTest {
    public static void main(String[] args) {
        Due.sentence("The line at which the thread ended: that of its EXIT");
        ofExit();
        Due.sentence("The line at which the thread ended: the number of the line that is not there");
        ofAMissingLine();
        Due.sentence("if it is tired, the line that it would have carried out next");
        ofATiredThread();
        Due.sentence("each thread has a line of its own");
        threadsDiffer();
        Due.sentence("0 before the first run");
        beforeTheFirstRun();
        Due.sentence("-1 if thread is not from 0 to n-1: too small");
        for (int n = 1; n <= 8; n++) {
            strangers(n, Due.BELOW_THREADS);
        }
        Due.sentence("-1 if thread is not from 0 to n-1: too large");
        for (int n = 1; n <= 8; n++) {
            strangers(n, Due.aboveThreads(n));
        }
        Due.end();
    }

    private static void ofExit() {
        for (int before = 0; before < 32; before++) {
            WarpMachine x = new WarpMachine(8);
            Op.fill(x, before, Op.ADD, 0, 0, 0);
            Op.fill(x, 32 - before, Op.EXIT, 0, 5, 0);
            x.run();
            Due.is("line(0), EXIT after " + before + " lines", x.line(0), before);
            Due.is("line(7), EXIT after " + before + " lines", x.line(7), before);
        }
    }

    private static void ofAMissingLine() {
        for (int lines = 0; lines <= 32; lines++) {
            WarpMachine x = new WarpMachine(8);
            Op.fill(x, lines, Op.SELF, 0, 0, 0);
            x.run();
            Due.is("line(0) of " + lines + " lines", x.line(0), lines);
            Due.is("line(7) of " + lines + " lines", x.line(7), lines);
        }
        for (int target = 1; target < 32; target++) {
            WarpMachine x = Op.machine(1, Op.GOTO, 0, target, 0);
            x.run();
            Due.is("line(0), GOTO missing line " + target, x.line(0), target);
            WarpMachine y = Op.machine(1, Op.ZERO, 0, target + 32, 0);
            y.run();
            Due.is("line(0), ZERO to missing line " + target, y.line(0), target);
        }
    }

    private static void ofATiredThread() {
        for (int round = 1; round <= 32; round++) {
            WarpMachine x = new WarpMachine(2);
            Op.fill(x, round - 1, Op.SELF, 0, 0, 0);
            x.emit(Op.GOTO, 0, 0, 0);
            x.run();
            Due.is("line(1) of a round of " + round, x.line(1), 48 % round);
        }
        for (int target = 0; target < 8; target++) {
            // The 48th line jumps, so that the line before says nothing of the next one.
            WarpMachine x = Op.busy(1, 47);
            x.emit(Op.GOTO, 0, target, 0);
            x.emit(Op.SELF, 0, 0, 0);
            x.run();
            Due.is("line(0), tired after a GOTO " + target, x.line(0), target);
            Due.is("state(0), tired after a GOTO " + target, x.state(0), 2);
        }
    }

    private static void threadsDiffer() {
        WarpMachine x = Op.machine(4,
                Op.SELF, 0, 0, 0, Op.ZERO, 0, 6, 0, Op.SET, 1, 1, 0, Op.SUB, 0, 0, 1, Op.ZERO, 0, 9, 0,
                Op.GOTO, 0, 5, 0, Op.EXIT, 0, 0, 0);
        Due.is("run() of threads that differ", x.run(), 2);
        Due.thread("ended at EXIT", x, 0, 6, 3, 1);
        Due.thread("ended at a missing line", x, 1, 9, 5, 1);
        Due.thread("tired", x, 2, 5, 48, 2);
        Due.thread("tired", x, 3, 5, 48, 2);
    }

    private static void beforeTheFirstRun() {
        for (int n = 1; n <= 8; n++) {
            WarpMachine x = Op.machine(n, Op.SELF, 0, 0, 0, Op.GOTO, 0, 5, 0);
            x.input(1, 1);
            Due.all("of " + n + ": line", x::line, n, 0);
        }
    }

    private static void strangers(int n, int[] threads) {
        WarpMachine x = Op.machine(n, Op.SELF, 0, 0, 0);
        x.run();
        Due.each("of " + n + ": line", x::line, threads, -1);
        Due.all("of " + n + ": line", x::line, n, 1);
    }
}
