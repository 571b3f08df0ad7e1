/** The ops by name, told apart from those in the class so that a slip there shows. */
final class Op {
    static final int SET = 0;
    static final int ADD = 1;
    static final int SUB = 2;
    static final int MUL = 3;
    static final int AND = 4;
    static final int LESS = 5;
    static final int SELF = 6;
    static final int LOAD = 7;
    static final int BUMP = 8;
    static final int GOTO = 9;
    static final int ZERO = 10;
    static final int EXIT = 11;

    private Op() {
    }

    /** A machine with the lines given as rows of op, a, b, c. */
    static WarpMachine machine(int threads, int... rows) {
        WarpMachine x = new WarpMachine(threads);
        add(x, rows);
        return x;
    }

    static void add(WarpMachine x, int... rows) {
        for (int i = 0; i + 3 < rows.length; i += 4) {
            x.emit(rows[i], rows[i + 1], rows[i + 2], rows[i + 3]);
        }
    }

    static void fill(WarpMachine x, int lines, int op, int a, int b, int c) {
        for (int i = 0; i < lines; i++) {
            x.emit(op, a, b, c);
        }
    }

    /**
     * A machine whose threads carry out so many lines (4 or more, if they don't tire) and then go on with the line
     * after its last one, with 0 in register 0, 1 in register 1, and 0 in the registers 2 and 3.
     */
    static WarpMachine busy(int threads, int lines) {
        int rounds = (lines - 1) / 3;
        int before = lines - 1 - 3 * rounds;
        WarpMachine x = new WarpMachine(threads);
        fill(x, before, SET, 2, 0, 0);
        // Two lines, then rounds of three of which the last jumps away on its second.
        add(x, SET, 1, 1, 0, SET, 0, -rounds, 0, ADD, 0, 0, 1, ZERO, 0, before + 5, 0, GOTO, 0, before + 2, 0);
        return x;
    }

    /** How many lines the machine made by busy has: the number of the line that it goes on with. */
    static int busyEnd(int lines) {
        return 5 + (lines - 1) % 3;
    }
}
