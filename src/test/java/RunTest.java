/** Promise 5; what a run does is tested with the Terms. */
final class RunTest {
    public static void main(String[] args) {
        Due.sentence("Answers how many threads have ended: all");
        allEnd();
        Due.sentence("Answers how many threads have ended: none");
        noneEnds();
        Due.sentence("Answers how many threads have ended (the others are tired)");
        someEnd();
        Due.sentence("Answers how many threads have ended: in this run alone");
        countsAnew();
        Due.end();
    }

    private static void allEnd() {
        for (int n = 1; n <= 8; n++) {
            Due.is("run() that ends at EXIT", Op.machine(n, Op.EXIT, 0, 0, 0).run(), n);
            Due.is("run() that ends after its last line", Op.machine(n, Op.SELF, 0, 0, 0).run(), n);
            Due.is("run() that jumps off", Op.machine(n, Op.GOTO, 0, 9, 0).run(), n);
            Due.is("run() with no lines", new WarpMachine(n).run(), n);
        }
    }

    private static void noneEnds() {
        for (int n = 1; n <= 8; n++) {
            WarpMachine x = Op.machine(n, Op.GOTO, 0, 0, 0);
            Due.is("run() of " + n + " that go round", x.run(), 0);
            Due.all("of " + n + " that go round: state", x::state, n, 2);
        }
    }

    private static void someEnd() {
        for (int n = 1; n <= 8; n++) {
            for (int r = 0; r <= n; r++) {
                // Threads less than r go round for ever.
                WarpMachine x = Op.machine(n,
                        Op.SELF, 0, 0, 0, Op.SET, 1, r, 0, Op.LESS, 2, 0, 1, Op.ZERO, 2, 5, 0, Op.GOTO, 0, 4, 0);
                Due.is("run() with " + r + " of " + n + " tired", x.run(), n - r);
                for (int t = 0; t < n; t++) {
                    Due.thread(r + " of " + n + " tired", x, t, t < r ? 4 : 5, t < r ? 48 : 4, t < r ? 2 : 1);
                }
            }
        }
    }

    private static void countsAnew() {
        WarpMachine x = Op.machine(3, Op.EXIT, 0, 0, 0);
        Due.is("run()", x.run(), 3);
        Due.is("run() again", x.run(), 3);
        x.clear();
        x.emit(Op.GOTO, 0, 0, 0);
        Due.is("a tired run after ended ones", x.run(), 0);
        Due.thread("a tired run after ended ones", x, 2, 0, 48, 2);
        x.clear();
        Due.is("an ended run after a tired one", x.run(), 3);
        Due.thread("an ended run after a tired one", x, 2, 0, 0, 1);
    }
}
