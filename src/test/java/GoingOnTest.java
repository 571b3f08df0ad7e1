/** The section "Terms": how a thread goes on, where it ends, and what a run is. */
final class GoingOnTest {
    public static void main(String[] args) {
        Due.sentence("After a line that says nothing of how it goes on, the thread goes on with the next line");
        nextLine();
        Due.sentence("would go on with a line that is not there ends there: the next line");
        fallsOff();
        Due.sentence("would go on with a line that is not there ends there: GOTO");
        gotoGoesOff();
        Due.sentence("would go on with a line that is not there ends there: ZERO");
        zeroGoesOff();
        Due.sentence("would go on with a line that is not there ends there: line 0 of no lines");
        noLines();
        Due.sentence("A RUN carries out the program for every thread");
        everyThread();
        Due.sentence("A RUN: registers are 0");
        registersBeginAt0();
        Due.sentence("A RUN: all output cells are 0");
        outputsBeginAt0();
        Due.sentence("A RUN: each thread begins at line 0");
        beginsAtLine0();
        Due.sentence("until it ends, or until it has carried out 48 lines");
        upTo48Lines();
        Due.sentence("EXIT counts as carried out");
        exitCounts();
        Due.sentence("carried out 48 lines and not ended is TIRED");
        tiredAfter48();
        Due.sentence("stops before its next line");
        nextLineIsNotCarriedOut();
        Due.sentence("Threads don't see each other's registers");
        registersAreApart();
        Due.sentence("output cells can't be read by the program");
        outputsAreNotRead();
        Due.end();
    }

    private static void nextLine() {
        for (int op = Op.SET; op <= Op.BUMP; op++) {
            // Operands that would be jumps to line 9 if the op took them so.
            WarpMachine x = Op.machine(1, op, 0, 9, 9, Op.SET, 3, 8, 0, Op.EXIT, 0, 0, 0);
            x.run();
            Due.thread("after op " + op, x, 0, 2, 3, 1);
            Due.is("after op " + op + ": reg(0, 3)", x.reg(0, 3), 8);
        }
    }

    private static void fallsOff() {
        for (int lines = 1; lines <= 32; lines++) {
            for (int op = Op.SET; op <= Op.BUMP; op++) {
                WarpMachine x = new WarpMachine(1);
                Op.fill(x, lines, op, 0, 1, 1);
                Due.is("run() of " + lines + " lines", x.run(), 1);
                Due.thread(lines + " lines of op " + op, x, 0, lines, lines, 1);
            }
        }
        WarpMachine y = Op.machine(1, Op.SET, 0, 1, 0, Op.ZERO, 0, 0, 0);
        y.run();
        Due.thread("a last ZERO that doesn't jump", y, 0, 2, 2, 1);
    }

    /** Jumps from the last line of a program to each line after it. */
    private static void jumpsOff(int op) {
        for (int lines = 1; lines <= 31; lines++) {
            for (int target = lines; target <= 31; target++) {
                WarpMachine x = new WarpMachine(1);
                Op.fill(x, lines - 1, Op.SELF, 0, 0, 0);
                x.emit(op, 0, target, 0);
                Due.is("run() that jumps off to " + target, x.run(), 1);
                Due.thread(lines + " lines, jump to " + target, x, 0, target, lines, 1);
            }
        }
    }

    private static void gotoGoesOff() {
        jumpsOff(Op.GOTO);
        WarpMachine x = Op.machine(1, Op.GOTO, 0, -1, 0);
        x.run();
        Due.thread("GOTO -1", x, 0, 31, 1, 1);
    }

    private static void zeroGoesOff() {
        jumpsOff(Op.ZERO);
        WarpMachine x = Op.machine(1, Op.ZERO, 0, -1, 0);
        x.run();
        Due.thread("ZERO to -1", x, 0, 31, 1, 1);
    }

    private static void noLines() {
        WarpMachine x = new WarpMachine(2);
        Due.is("run() of no lines", x.run(), 2);
        Due.thread("no lines", x, 0, 0, 0, 1);
        Due.thread("no lines", x, 1, 0, 0, 1);
    }

    private static void everyThread() {
        for (int n = 1; n <= 8; n++) {
            WarpMachine x = Op.machine(n, Op.SET, 1, 1, 0, Op.BUMP, 0, 1, 0);
            x.run();
            Due.outputs("one for each of " + n + " threads", x, 0, n);
        }
    }

    private static void registersBeginAt0() {
        WarpMachine x = Op.machine(8, Op.SET, 0, 5, 0, Op.SET, 1, 6, 0, Op.SET, 2, 7, 0, Op.SET, 3, 8, 0);
        x.run();
        x.clear();
        // The sum of all four registers, and then nothing but them.
        Op.add(x, Op.BUMP, 0, 0, 0, Op.BUMP, 0, 1, 0, Op.BUMP, 0, 2, 0, Op.BUMP, 0, 3, 0);
        x.run();
        Due.outputs("registers at the second run's beginning", x);
        for (int t = 0; t < 8; t++) {
            Due.regs("registers of the second run", x, t, 0, 0, 0, 0);
        }
    }

    private static void outputsBeginAt0() {
        WarpMachine x = new WarpMachine(1);
        for (int cell = 0; cell < 16; cell++) {
            Op.add(x, Op.SET, 0, cell, 0, Op.BUMP, 0, 0, 0);
        }
        for (int runs = 0; runs < 3; runs++) {
            x.run();
            for (int cell = 0; cell < 16; cell++) {
                Due.is("output(" + cell + ") of run " + runs, x.output(cell), cell);
            }
        }
        x.clear();
        x.run();
        Due.outputs("a run that bumps nothing", x);
    }

    private static void beginsAtLine0() {
        WarpMachine x = Op.machine(2, Op.SET, 0, 5, 0, Op.EXIT, 0, 0, 0, Op.SET, 1, 6, 0);
        for (int runs = 0; runs < 3; runs++) {
            x.run();
            Due.thread("run again after an EXIT", x, 1, 1, 2, 1);
            Due.regs("run again after an EXIT", x, 1, 5, 0, 0, 0);
        }
        WarpMachine y = Op.machine(1, Op.SELF, 0, 0, 0, Op.SELF, 0, 0, 0, Op.SELF, 0, 0, 0, Op.SELF, 0, 0, 0,
                Op.GOTO, 0, 0, 0);
        for (int runs = 0; runs < 3; runs++) {
            y.run();
            Due.thread("run again after a tired one", y, 0, 3, 48, 2);
        }
    }

    private static void upTo48Lines() {
        for (int lines = 4; lines <= 60; lines++) {
            WarpMachine x = Op.busy(2, lines);
            Due.is("run() of " + lines + " lines to be carried out", x.run(), lines <= 48 ? 2 : 0);
            for (int t = 0; t < 2; t++) {
                Due.is("steps of " + lines, x.steps(t), lines <= 48 ? lines : 48);
                Due.is("state of " + lines, x.state(t), lines <= 48 ? 1 : 2);
            }
            if (lines <= 48) {
                Due.is("line after " + lines, x.line(0), Op.busyEnd(lines));
            }
        }
    }

    private static void exitCounts() {
        WarpMachine x = Op.machine(1, Op.EXIT, 0, 0, 0);
        x.run();
        Due.is("steps of an EXIT alone", x.steps(0), 1);
        // An EXIT that is the 47th, 48th or 49th line.
        for (int before = 46; before <= 48; before++) {
            WarpMachine y = Op.busy(1, before);
            y.emit(Op.EXIT, 0, 0, 0);
            Due.is("run(): EXIT after " + before, y.run(), before < 48 ? 1 : 0);
            int steps = before < 48 ? before + 1 : 48;
            Due.thread("EXIT after " + before, y, 0, Op.busyEnd(before), steps, before < 48 ? 1 : 2);
        }
    }

    private static void tiredAfter48() {
        for (int round = 1; round <= 32; round++) {
            WarpMachine x = new WarpMachine(1);
            Op.fill(x, round - 1, Op.SELF, 0, 0, 0);
            x.emit(Op.GOTO, 0, 0, 0);
            Due.is("run() of a round of " + round, x.run(), 0);
            Due.thread("a round of " + round, x, 0, 48 % round, 48, 2);
        }
    }

    private static void nextLineIsNotCarriedOut() {
        // The 48th line is carried out, the 49th isn't.
        WarpMachine x = Op.busy(1, 47);
        Op.add(x, Op.SET, 2, 8, 0, Op.SET, 3, 9, 0, Op.SET, 3, 10, 0);
        x.run();
        Due.thread("48 lines", x, 0, Op.busyEnd(47) + 1, 48, 2);
        Due.regs("48 lines", x, 0, 0, 1, 8, 0);
        WarpMachine y = Op.busy(8, 47);
        Op.add(y, Op.BUMP, 0, 1, 0, Op.BUMP, 1, 1, 0, Op.BUMP, 1, 1, 0);
        y.run();
        Due.outputs("48 lines", y, 0, 8);
    }

    private static void registersAreApart() {
        // Thread 0 sets its registers; the others look at theirs.
        WarpMachine x = Op.machine(8, Op.SELF, 3, 0, 0, Op.ZERO, 3, 3, 0, Op.GOTO, 0, 6, 0,
                Op.SET, 0, 40, 0, Op.SET, 1, 41, 0, Op.SET, 2, 42, 0);
        x.run();
        Due.regs("thread 0", x, 0, 40, 41, 42, 0);
        for (int t = 1; t < 8; t++) {
            Due.regs("another thread", x, t, 0, 0, 0, t);
        }
        // The other way round: the last thread alone is left as it was.
        WarpMachine y = Op.machine(8, Op.SELF, 3, 0, 0, Op.SET, 0, 7, 0, Op.SUB, 0, 0, 3, Op.ZERO, 0, 9, 0,
                Op.SET, 1, 41, 0);
        y.run();
        Due.regs("thread 7", y, 7, 0, 0, 0, 7);
        for (int t = 0; t < 7; t++) {
            Due.regs("another thread", y, t, 7 - t, 41, 0, t);
        }
    }

    private static void outputsAreNotRead() {
        for (int cell = 0; cell < 16; cell++) {
            WarpMachine x = Op.machine(8, Op.SET, 0, cell, 0, Op.SET, 1, 5, 0, Op.BUMP, 0, 1, 0, Op.LOAD, 2, 0, 0);
            x.run();
            Due.is("output(" + cell + ")", x.output(cell), 40);
            Due.regs("LOAD after BUMP of " + cell, x, 7, cell, 5, 0, 0);
        }
    }
}
