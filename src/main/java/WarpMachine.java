/** A small program that several threads run side by side, all adding to common output cells. */
public final class WarpMachine {
    private static final int MOST_THREADS = 8;
    private static final int MOST_LINES = 32;
    private static final int MOST_STEPS = 48;
    private static final int CELLS = 16;
    private static final int REGISTERS = 4;
    private static final int ALL_REGISTERS = MOST_THREADS * REGISTERS;

    private static final int LINE_MASK = MOST_LINES - 1;
    private static final int CELL_MASK = CELLS - 1;
    private static final int REGISTER_MASK = REGISTERS - 1;

    private static final int SET = 0;
    private static final int ADD = 1;
    private static final int SUB = 2;
    private static final int MUL = 3;
    private static final int AND = 4;
    private static final int LESS = 5;
    private static final int SELF = 6;
    private static final int LOAD = 7;
    private static final int BUMP = 8;
    private static final int GOTO = 9;
    private static final int ZERO = 10;
    private static final int EXIT = 11;

    private static final int ENDED = 1;
    private static final int TIRED = 2;

    private final int[] lineOp = new int[MOST_LINES];
    private final int[] lineA = new int[MOST_LINES];
    private final int[] lineB = new int[MOST_LINES];
    private final int[] lineC = new int[MOST_LINES];
    private int lineCount;

    private final int[] inputCells = new int[CELLS];
    private final int[] outputCells = new int[CELLS];

    // The registers of thread t stand from t * REGISTERS on.
    private final int[] registers = new int[ALL_REGISTERS];
    private final int[] lastLine = new int[MOST_THREADS];
    private final int[] stepCount = new int[MOST_THREADS];
    private final int[] lastState = new int[MOST_THREADS];
    private final int threadCount;

    public WarpMachine(int threads) {
        threadCount = threads < 1 ? 1 : threads > MOST_THREADS ? MOST_THREADS : threads;
        lineCount = 0;
    }

    public int emit(int op, int a, int b, int c) {
        if (op < SET || op > EXIT || lineCount >= MOST_LINES) {
            return -1;
        }
        lineOp[lineCount] = op;
        lineA[lineCount] = a;
        lineB[lineCount] = b;
        lineC[lineCount] = c;
        lineCount++;
        return lineCount;
    }

    public void clear() {
        lineCount = 0;
    }

    public void input(int cell, int value) {
        inputCells[cell & CELL_MASK] = value;
    }

    public int run() {
        resetForRun();
        int ended = 0;
        for (int thread = 0; thread < threadCount; thread++) {
            runThread(thread);
            if (lastState[thread] == ENDED) {
                ended++;
            }
        }
        return ended;
    }

    public int reg(int thread, int index) {
        return hasThread(thread) ? registers[thread * REGISTERS + (index & REGISTER_MASK)] : 0;
    }

    public int line(int thread) {
        return hasThread(thread) ? lastLine[thread] : -1;
    }

    public int steps(int thread) {
        return hasThread(thread) ? stepCount[thread] : -1;
    }

    public int state(int thread) {
        return hasThread(thread) ? lastState[thread] : -1;
    }

    public int output(int cell) {
        return outputCells[cell & CELL_MASK];
    }

    private boolean hasThread(int thread) {
        return thread >= 0 && thread < threadCount;
    }

    private void resetForRun() {
        for (int i = 0; i < ALL_REGISTERS; i++) {
            registers[i] = 0;
        }
        for (int i = 0; i < CELLS; i++) {
            outputCells[i] = 0;
        }
    }

    // Threads can't see one another, so each may run to its end before the next begins.
    private void runThread(int thread) {
        int at = 0;
        int done = 0;
        boolean exited = false;
        while (done < MOST_STEPS && at < lineCount && !exited) {
            done++;
            // An EXIT is carried out, but the thread's line stays that of the EXIT.
            if (lineOp[at] == EXIT) {
                exited = true;
            } else {
                carryOut(thread, at);
                at = lineAfter(thread, at);
            }
        }
        lastLine[thread] = at;
        stepCount[thread] = done;
        // A missing line is looked at before tiredness: after the 48th line it still ends the thread.
        lastState[thread] = exited || at >= lineCount ? ENDED : TIRED;
    }

    private void carryOut(int thread, int at) {
        int base = thread * REGISTERS;
        int target = base + (lineA[at] & REGISTER_MASK);
        int rb = registers[base + (lineB[at] & REGISTER_MASK)];
        int rc = registers[base + (lineC[at] & REGISTER_MASK)];
        switch (lineOp[at]) {
            case SET:
                registers[target] = lineB[at];
                break;
            case ADD:
                registers[target] = rb + rc;
                break;
            case SUB:
                registers[target] = rb - rc;
                break;
            case MUL:
                registers[target] = rb * rc;
                break;
            case AND:
                registers[target] = rb & rc;
                break;
            case LESS:
                registers[target] = rb < rc ? 1 : 0;
                break;
            case SELF:
                registers[target] = thread;
                break;
            case LOAD:
                registers[target] = inputCells[rb & CELL_MASK];
                break;
            case BUMP:
                outputCells[registers[target] & CELL_MASK] += rb;
                break;
            default:
                // GOTO and ZERO write nothing; lineAfter follows them.
                break;
        }
    }

    // GOTO and ZERO write no register, so it may be asked after the line was carried out.
    private int lineAfter(int thread, int at) {
        int ra = registers[thread * REGISTERS + (lineA[at] & REGISTER_MASK)];
        boolean jumps = lineOp[at] == GOTO || lineOp[at] == ZERO && ra == 0;
        return jumps ? lineB[at] & LINE_MASK : at + 1;
    }
}
