/** Promise 6. */
final class RegTest {
    public static void main(String[] args) {
        Due.sentence("The register of the thread after the last run");
        afterTheLastRun();
        Due.sentence("The register index & 3: too large");
        masked(new int[][] {{4, 0}, {5, 1}, {6, 2}, {7, 3}, {8, 0}, {31, 3}, {257, 1}, {Due.MAX - 1, 2}, {Due.MAX, 3}});
        Due.sentence("The register index & 3: too small");
        masked(new int[][] {{-1, 3}, {-2, 2}, {-3, 1}, {-4, 0}, {-5, 3}, {-32, 0}, {Due.MIN, 0}, {Due.MIN + 1, 1}});
        Due.sentence("0 if thread is not from 0 to n-1: too small");
        for (int n = 1; n <= 8; n++) {
            strangers(n, Due.BELOW_THREADS);
        }
        Due.sentence("0 if thread is not from 0 to n-1: too large");
        for (int n = 1; n <= 8; n++) {
            strangers(n, Due.aboveThreads(n));
        }
        Due.sentence("the threads 0 and n-1 are threads");
        firstAndLast();
        Due.end();
    }

    /** Register i of thread t ends as 10 * (i + 1) + t. */
    private static WarpMachine numbered(int n) {
        return Op.machine(n,
                Op.SELF, 3, 0, 0,
                Op.SET, 0, 10, 0, Op.ADD, 0, 0, 3, Op.SET, 1, 10, 0, Op.ADD, 1, 1, 0,
                Op.SET, 2, 10, 0, Op.ADD, 2, 2, 1, Op.SET, 3, 10, 0, Op.ADD, 3, 3, 2);
    }

    private static void afterTheLastRun() {
        WarpMachine x = numbered(3);
        for (int t = 0; t < 3; t++) {
            Due.regs("before a run", x, t, 0, 0, 0, 0);
        }
        x.run();
        for (int t = 0; t < 3; t++) {
            Due.regs("after a run", x, t, 10 + t, 20 + t, 30 + t, 40 + t);
        }
        x.clear();
        x.emit(Op.SET, 1, 5, 0);
        x.run();
        for (int t = 0; t < 3; t++) {
            Due.regs("after another run", x, t, 0, 5, 0, 0);
        }
    }

    private static void masked(int[][] pairs) {
        WarpMachine x = numbered(8);
        x.run();
        for (int[] pair : pairs) {
            for (int t = 0; t < 8; t++) {
                Due.is("reg(" + t + ", " + pair[0] + ")", x.reg(t, pair[0]), 10 * (pair[1] + 1) + t);
            }
        }
    }

    private static void strangers(int n, int[] threads) {
        WarpMachine x = numbered(n);
        for (int t : threads) {
            Due.regs("no run yet, no such thread of " + n, x, t, 0, 0, 0, 0);
        }
        x.run();
        for (int t : threads) {
            Due.regs("no such thread of " + n, x, t, 0, 0, 0, 0);
            Due.is("no such thread, index far off", x.reg(t, Due.MIN), 0);
            Due.is("no such thread, index far off", x.reg(t, -1), 0);
            Due.is("no such thread, index far off", x.reg(t, Due.MAX), 0);
        }
    }

    private static void firstAndLast() {
        for (int n = 1; n <= 8; n++) {
            WarpMachine x = numbered(n);
            x.run();
            Due.regs("the first of " + n, x, 0, 10, 20, 30, 40);
            Due.regs("the last of " + n, x, n - 1, 9 + n, 19 + n, 29 + n, 39 + n);
        }
    }
}
