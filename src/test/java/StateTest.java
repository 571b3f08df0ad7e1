/** Promise 9. */
final class StateTest {
    public static void main(String[] args) {
        Due.sentence("0 before the first run");
        beforeTheFirstRun();
        Due.sentence("1 if the thread ended in the last run");
        ended();
        Due.sentence("2 if it is tired");
        tired();
        Due.sentence("in the last run: not in the one before");
        inTheLastRun();
        Due.sentence("-1 if thread is not from 0 to n-1: too small");
        for (int n = 1; n <= 8; n++) {
            strangers(n, Due.BELOW_THREADS);
        }
        Due.sentence("-1 if thread is not from 0 to n-1: too large");
        for (int n = 1; n <= 8; n++) {
            strangers(n, Due.aboveThreads(n));
        }
        Due.end();
    }

    private static void beforeTheFirstRun() {
        for (int n = 1; n <= 8; n++) {
            WarpMachine x = Op.machine(n, Op.EXIT, 0, 0, 0);
            x.emit(12, 0, 0, 0);
            x.input(0, 1);
            x.clear();
            Due.all("of " + n + ": state", x::state, n, 0);
        }
    }

    private static void allAre(String what, WarpMachine x, int want) {
        x.run();
        Due.all(what + ": state", x::state, 8, want);
    }

    private static void ended() {
        allAre("no lines", new WarpMachine(8), 1);
        allAre("EXIT", Op.machine(8, Op.EXIT, 0, 0, 0), 1);
        allAre("the last line's end", Op.machine(8, Op.SET, 0, 1, 0), 1);
        allAre("GOTO 1", Op.machine(8, Op.GOTO, 0, 1, 0), 1);
        allAre("ZERO to 31", Op.machine(8, Op.ZERO, 0, 31, 0), 1);
        allAre("47 lines", Op.busy(8, 47), 1);
        allAre("48 lines", Op.busy(8, 48), 1);
    }

    private static void tired() {
        allAre("GOTO 0", Op.machine(8, Op.GOTO, 0, 0, 0), 2);
        allAre("ZERO to 0", Op.machine(8, Op.ZERO, 0, 0, 0), 2);
        allAre("49 lines", Op.busy(8, 49), 2);
        allAre("50 lines", Op.busy(8, 50), 2);
        // A thread may be 48 lines far and have an EXIT before it.
        WarpMachine x = Op.busy(8, 48);
        x.emit(Op.EXIT, 0, 0, 0);
        allAre("an EXIT as the 49th line", x, 2);
    }

    private static void inTheLastRun() {
        WarpMachine x = Op.machine(8, Op.EXIT, 0, 0, 0);
        allAre("first ended", x, 1);
        x.clear();
        x.emit(Op.GOTO, 0, 0, 0);
        allAre("then tired", x, 2);
        x.clear();
        allAre("then ended again", x, 1);
    }

    private static void strangers(int n, int[] threads) {
        WarpMachine x = Op.machine(n, Op.SELF, 0, 0, 0);
        x.run();
        Due.each("of " + n + ": state", x::state, threads, -1);
        Due.all("of " + n + ": state", x::state, n, 1);
    }
}
