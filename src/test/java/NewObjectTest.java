/** Promise 1. */
final class NewObjectTest {
    public static void main(String[] args) {
        for (int n = 1; n <= 8; n++) {
            hasThreads(n, n);
        }
        hasThreads(0, 1);
        hasThreads(-1, 1);
        hasThreads(Integer.MIN_VALUE, 1);
        hasThreads(9, 8);
        hasThreads(Integer.MAX_VALUE, 8);
        objectsAreApart();
        Due.end();
    }

    private static void hasThreads(int given, int want) {
        String what = "new WarpMachine(" + given + ")";
        WarpMachine x = new WarpMachine(given);
        for (int t = 0; t < want; t++) {
            Due.thread(what, x, t, 0, 0, 0);
            Due.regs(what, x, t, 0, 0, 0, 0);
        }
        Due.thread(what, x, want, -1, -1, -1);
        Due.outputs(what, x);
        Due.is(what + ": run() with no line", x.run(), want);
        Due.is(what + ": first emit", x.emit(Op.LOAD, 0, 0, 0), 1);
    }

    private static void objectsAreApart() {
        WarpMachine x = Op.machine(2, Op.SET, 0, 3, 0, Op.BUMP, 0, 0, 0);
        WarpMachine y = new WarpMachine(2);
        x.input(0, 5);
        x.run();
        Due.outputs("another object", y);
        Due.thread("another object", y, 0, 0, 0, 0);
        Due.is("another object: emit", y.emit(Op.LOAD, 1, 0, 0), 1);
        y.run();
        Due.regs("another object: inputs begin at 0", y, 0, 0, 0, 0, 0);
    }
}
