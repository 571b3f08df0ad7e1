/** Promise 10. */
final class OutputTest {
    public static void main(String[] args) {
        WarpMachine x = new WarpMachine(8);
        for (int i = -40; i < 40; i++) {
            Due.is("before a run: output(" + i + ")", x.output(i), 0);
        }
        Op.add(x, Op.SELF, 0, 0, 0, Op.SET, 1, 8, 0, Op.ADD, 2, 0, 1, Op.SET, 3, 100, 0, Op.ADD, 3, 3, 0,
                Op.BUMP, 0, 3, 0, Op.ADD, 3, 3, 1, Op.BUMP, 2, 3, 0);
        x.run();
        for (int i = -40; i < 40; i++) {
            Due.is("output(" + i + ")", x.output(i), 100 + Math.floorMod(i, 16));
        }
        Due.is("output(MIN)", x.output(Integer.MIN_VALUE), 100);
        Due.is("output(MAX)", x.output(Integer.MAX_VALUE), 115);
        x.clear();
        Due.is("output(1) after clear", x.output(1), 101);
        x.run();
        Due.outputs("a run without lines", x);
        inputsAreNotOutputs();
        Due.end();
    }

    private static void inputsAreNotOutputs() {
        WarpMachine x = Op.machine(1, Op.SET, 0, 2, 0, Op.BUMP, 0, 0, 0, Op.LOAD, 1, 0, 0);
        x.input(5, 50);
        x.run();
        Due.outputs("inputs don't show in outputs", x, 2, 2);
        Due.regs("outputs don't show in inputs", x, 0, 2, 0, 0, 0);
    }
}
