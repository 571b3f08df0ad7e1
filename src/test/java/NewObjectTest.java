/** Promise 1. */
final class NewObjectTest {
    public static void main(String[] args) {
        Due.sentence("threads: n");
        for (int n = 1; n <= 8; n++) {
            hasThreads(n, n);
        }
        Due.sentence("threads: less than 1 becomes 1");
        int[] less = {0, -1, -2, -7, -8, -256, Due.MIN + 1, Due.MIN};
        for (int given : less) {
            hasThreads(given, 1);
        }
        Due.sentence("threads: more than 8 becomes 8");
        int[] more = {9, 10, 15, 16, 17, 32, 256, 257, 65537, Due.MAX - 1, Due.MAX};
        for (int given : more) {
            hasThreads(given, 8);
        }
        Due.sentence("No line");
        noLine();
        Due.sentence("no run yet: all registers are 0");
        registersAre0();
        Due.sentence("no run yet: all output cells are 0");
        Due.outputs("a new object", new WarpMachine(8));
        Due.sentence("no run yet: lines are 0");
        linesAre0();
        Due.sentence("no run yet: steps are 0");
        stepsAre0();
        Due.sentence("no run yet: states are 0");
        statesAre0();
        Due.sentence("a new object shares nothing with another");
        objectsAreApart();
        Due.end();
    }

    private static void hasThreads(int given, int want) {
        String what = "new WarpMachine(" + given + ")";
        WarpMachine x = new WarpMachine(given);
        for (int t = -2; t < 12; t++) {
            Due.is(what + ": state(" + t + ")", x.state(t), t >= 0 && t < want ? 0 : -1);
        }
        Op.add(x, Op.SET, 1, 1, 0, Op.BUMP, 0, 1, 0);
        Due.is(what + ": run()", x.run(), want);
        Due.is(what + ": threads that ran", x.output(0), want);
    }

    private static void noLine() {
        for (int n = 1; n <= 8; n++) {
            WarpMachine x = new WarpMachine(n);
            Due.is("run() with no line", x.run(), n);
            Due.thread("run with no line", x, n - 1, 0, 0, 1);
            WarpMachine y = new WarpMachine(n);
            Due.is("the first emit", y.emit(Op.LOAD, 0, 0, 0), 1);
        }
    }

    private static void registersAre0() {
        for (int n = 1; n <= 8; n++) {
            WarpMachine x = new WarpMachine(n);
            for (int t = 0; t < n; t++) {
                Due.regs("a new object of " + n, x, t, 0, 0, 0, 0);
            }
        }
    }

    private static void linesAre0() {
        for (int n = 1; n <= 8; n++) {
            WarpMachine x = new WarpMachine(n);
            Due.all("of " + n + ": line", x::line, n, 0);
        }
    }

    private static void stepsAre0() {
        for (int n = 1; n <= 8; n++) {
            WarpMachine x = new WarpMachine(n);
            Due.all("of " + n + ": steps", x::steps, n, 0);
        }
    }

    private static void statesAre0() {
        for (int n = 1; n <= 8; n++) {
            WarpMachine x = new WarpMachine(n);
            Due.all("of " + n + ": state", x::state, n, 0);
        }
    }

    private static void objectsAreApart() {
        WarpMachine x = Op.machine(2, Op.SET, 0, 3, 0, Op.BUMP, 0, 0, 0);
        WarpMachine y = new WarpMachine(2);
        x.input(0, 5);
        x.run();
        Due.outputs("another object", y);
        Due.thread("another object", y, 0, 0, 0, 0);
        Due.regs("another object", y, 0, 0, 0, 0, 0);
        Due.is("another object: emit", y.emit(Op.LOAD, 1, 0, 0), 1);
        y.run();
        Due.regs("another object: inputs begin at 0", y, 0, 0, 0, 0, 0);
    }
}
