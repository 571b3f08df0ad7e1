/** "What it is": every call up to the 512th answers as promised. */
final class CallLimitTest {
    private static final int MOST_CALLS = 512;

    public static void main(String[] args) {
        Due.sentence("used for at most 512 calls: run");
        runs();
        Due.sentence("used for at most 512 calls: emit");
        emits();
        Due.sentence("used for at most 512 calls: clear");
        clears();
        Due.sentence("used for at most 512 calls: input");
        inputs();
        Due.sentence("used for at most 512 calls: reg, line, steps, state, output");
        readers();
        Due.sentence("what later calls answer is free");
        laterCallsComeBack();
        Due.end();
    }

    private static void runs() {
        WarpMachine x = Op.machine(8, Op.SET, 1, 1, 0, Op.BUMP, 0, 1, 0, Op.GOTO, 0, 1, 0);
        for (int call = 4; call < MOST_CALLS; call++) {
            Due.is("run() as call " + call, x.run(), 0);
        }
        // 48 lines: one SET, then BUMP and GOTO by turns, beginning with BUMP.
        Due.is("output(0) as call 512", x.output(0), 8 * 24);
    }

    private static void emits() {
        WarpMachine x = new WarpMachine(8);
        for (int call = 1; call <= MOST_CALLS - 2; call++) {
            Due.is("emit as call " + call, x.emit(Op.SET, 0, call, 0), call <= 32 ? call : -1);
        }
        Due.is("run() as call 511", x.run(), 8);
        Due.is("reg(7, 0) as call 512", x.reg(7, 0), 32);
    }

    private static void clears() {
        WarpMachine x = new WarpMachine(1);
        for (int call = 2; call <= MOST_CALLS; call += 2) {
            x.clear();
            Due.is("emit after a clear as call " + call, x.emit(Op.SET, 0, 1, 0), 1);
        }
    }

    private static void inputs() {
        WarpMachine x = Op.machine(1, Op.SET, 0, 7, 0, Op.LOAD, 0, 0, 0);
        for (int call = 3; call <= MOST_CALLS - 2; call++) {
            x.input(7, call);
        }
        Due.is("run() as call 511", x.run(), 1);
        Due.is("reg(0, 0) as call 512", x.reg(0, 0), MOST_CALLS - 2);
    }

    private static void readers() {
        WarpMachine x = new WarpMachine(8);
        // 17 * 30 = 510 calls: nothing has run, so nothing is there but 0.
        for (int round = 0; round < 30; round++) {
            for (int t = 0; t < 4; t++) {
                Due.thread("no run yet", x, t, 0, 0, 0);
                Due.is("no run yet: reg", x.reg(t, round), 0);
            }
            Due.is("no run yet: output", x.output(round), 0);
        }
        Due.is("run() as call 511", x.run(), 8);
        Due.is("state(7) as call 512", x.state(7), 1);
    }

    /** The answers are free, but LANGUAGE.md lets no call throw or fail to end. */
    private static void laterCallsComeBack() {
        WarpMachine x = new WarpMachine(8);
        int rounds = 0;
        for (int i = 0; i < 1000; i++) {
            x.emit(i % 14 - 1, i, i * 31, -i);
            x.input(i, i);
            x.run();
            x.reg(i, i);
            x.line(i - 500);
            x.steps(i - 500);
            x.state(i - 500);
            x.output(-i);
            if (i % 50 == 49) {
                x.clear();
            }
            rounds++;
        }
        Due.is("rounds of calls that came back", rounds, 1000);
    }
}
