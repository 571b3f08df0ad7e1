/** The ops by name, told apart from those in the class so that a slip there shows. */
final class Op {
    static final int SET = 0;
    static final int ADD = 1;
    static final int SUB = 2;
    static final int MUL = 3;
    static final int AND = 4;
    static final int LESS = 5;
    static final int SELF = 6;
    static final int LOAD = 7;
    static final int BUMP = 8;
    static final int GOTO = 9;
    static final int ZERO = 10;
    static final int EXIT = 11;

    private Op() {
    }

    /** A machine with the lines given as rows of op, a, b, c. */
    static WarpMachine machine(int threads, int... rows) {
        WarpMachine x = new WarpMachine(threads);
        add(x, rows);
        return x;
    }

    static void add(WarpMachine x, int... rows) {
        for (int i = 0; i + 3 < rows.length; i += 4) {
            x.emit(rows[i], rows[i + 1], rows[i + 2], rows[i + 3]);
        }
    }

    static void fill(WarpMachine x, int lines, int op, int a, int b, int c) {
        for (int i = 0; i < lines; i++) {
            x.emit(op, a, b, c);
        }
    }
}
