/** Counts the answers that are not the ones due. */
final class Due {
    static final int[] FAR = {Integer.MIN_VALUE, -1000, -9, -8, -1, 8, 9, 16, 1000, Integer.MAX_VALUE};

    private static int asked = 0;
    private static int wrong = 0;

    private Due() {
    }

    static void is(String what, int got, int want) {
        asked++;
        if (got != want) {
            wrong++;
            System.out.println(what + " answered " + got + ", due is " + want);
        }
    }

    /** line, state and steps of a thread, in one. */
    static void thread(String what, WarpMachine x, int thread, int line, int steps, int state) {
        is(what + ": line(" + thread + ")", x.line(thread), line);
        is(what + ": steps(" + thread + ")", x.steps(thread), steps);
        is(what + ": state(" + thread + ")", x.state(thread), state);
    }

    static void regs(String what, WarpMachine x, int thread, int... want) {
        for (int i = 0; i < 4; i++) {
            is(what + ": reg(" + thread + ", " + i + ")", x.reg(thread, i), want[i]);
        }
    }

    /** The output cells: pairs of a cell and its value; every other cell is due to be 0. */
    static void outputs(String what, WarpMachine x, int... pairs) {
        int[] want = new int[16];
        for (int i = 0; i + 1 < pairs.length; i += 2) {
            want[pairs[i]] = pairs[i + 1];
        }
        for (int cell = 0; cell < 16; cell++) {
            is(what + ": output(" + cell + ")", x.output(cell), want[cell]);
        }
    }

    static void end() {
        System.out.println(wrong == 0 ? asked + " answers as due" : wrong + " of " + asked + " answers are not as due");
        if (wrong != 0 || asked == 0) {
            System.exit(1);
        }
    }
}
