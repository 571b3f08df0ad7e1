/** Promise 8. */
final class StepsTest {
    public static void main(String[] args) {
        Due.sentence("How many lines the thread has carried out: from 0 to all");
        counts();
        Due.sentence("How many lines the thread has carried out: lines, not places in the program");
        countsLinesAgain();
        Due.sentence("How many lines the thread has carried out: at most 48");
        atMost48();
        Due.sentence("in the last run");
        inTheLastRun();
        Due.sentence("0 before the first run");
        beforeTheFirstRun();
        Due.sentence("-1 if thread is not from 0 to n-1: too small");
        for (int n = 1; n <= 8; n++) {
            strangers(n, Due.BELOW_THREADS);
        }
        Due.sentence("-1 if thread is not from 0 to n-1: too large");
        for (int n = 1; n <= 8; n++) {
            strangers(n, Due.aboveThreads(n));
        }
        Due.end();
    }

    private static void counts() {
        for (int lines = 0; lines <= 32; lines++) {
            WarpMachine x = new WarpMachine(8);
            Op.fill(x, lines, Op.SELF, 0, 0, 0);
            x.run();
            Due.is("steps(0) of " + lines + " lines", x.steps(0), lines);
            Due.is("steps(7) of " + lines + " lines", x.steps(7), lines);
        }
        for (int before = 0; before < 32; before++) {
            WarpMachine x = new WarpMachine(1);
            Op.fill(x, before, Op.SELF, 0, 0, 0);
            x.emit(Op.EXIT, 0, 0, 0);
            x.run();
            Due.is("steps(0), EXIT after " + before, x.steps(0), before + 1);
        }
    }

    private static void countsLinesAgain() {
        WarpMachine x = Op.machine(1, Op.GOTO, 0, 31, 0);
        x.run();
        Due.is("steps(0) of one jump", x.steps(0), 1);
        for (int lines = 4; lines < 48; lines++) {
            WarpMachine y = Op.busy(1, lines);
            y.run();
            Due.is("steps(0) of rounds", y.steps(0), lines);
        }
    }

    private static void atMost48() {
        for (int lines = 47; lines <= 60; lines++) {
            WarpMachine x = Op.busy(8, lines);
            x.run();
            Due.is("steps(0)", x.steps(0), lines < 48 ? lines : 48);
            Due.is("steps(7)", x.steps(7), lines < 48 ? lines : 48);
        }
        WarpMachine y = Op.machine(1, Op.GOTO, 0, 0, 0);
        y.run();
        Due.is("steps(0) of GOTO 0", y.steps(0), 48);
    }

    private static void inTheLastRun() {
        WarpMachine x = Op.machine(2, Op.SELF, 0, 0, 0, Op.SELF, 0, 0, 0);
        x.run();
        x.run();
        Due.is("steps(1) after two runs", x.steps(1), 2);
        x.clear();
        Due.is("steps(1) after clear", x.steps(1), 2);
        x.run();
        Due.is("steps(1) after a run with no lines", x.steps(1), 0);
    }

    private static void beforeTheFirstRun() {
        for (int n = 1; n <= 8; n++) {
            WarpMachine x = Op.machine(n, Op.SELF, 0, 0, 0, Op.EXIT, 0, 0, 0);
            Due.all("of " + n + ": steps", x::steps, n, 0);
        }
    }

    private static void strangers(int n, int[] threads) {
        WarpMachine x = Op.machine(n, Op.SELF, 0, 0, 0);
        x.run();
        Due.each("of " + n + ": steps", x::steps, threads, -1);
        Due.all("of " + n + ": steps", x::steps, n, 1);
    }
}
