/** Promise 4. */
final class InputTest {
    public static void main(String[] args) {
        everyCell();
        cellsAreMasked();
        onlyTheNextRunSeesIt();
        Due.end();
    }

    private static int load(WarpMachine x, int cell) {
        x.clear();
        Op.add(x, Op.SET, 1, cell, 0, Op.LOAD, 0, 1, 0);
        x.run();
        return x.reg(0, 0);
    }

    private static void everyCell() {
        WarpMachine x = new WarpMachine(1);
        for (int cell = 0; cell < 16; cell++) {
            Due.is("new input cell " + cell, load(x, cell), 0);
            x.input(cell, 100 + cell);
        }
        for (int cell = 0; cell < 16; cell++) {
            Due.is("input cell " + cell, load(x, cell), 100 + cell);
        }
        x.input(3, Integer.MIN_VALUE);
        x.input(3, Integer.MAX_VALUE);
        Due.is("input cell 3 becomes its newest value", load(x, 3), Integer.MAX_VALUE);
    }

    private static void cellsAreMasked() {
        int[][] cells = {{16, 0}, {31, 15}, {-1, 15}, {-16, 0}, {-14, 2}, {Integer.MIN_VALUE, 0}, {Integer.MAX_VALUE, 15}};
        for (int[] pair : cells) {
            WarpMachine x = new WarpMachine(1);
            x.input(pair[0], 9);
            for (int cell = 0; cell < 16; cell++) {
                Due.is("cell " + cell + " after input(" + pair[0] + ", 9)", load(x, cell), cell == pair[1] ? 9 : 0);
            }
        }
    }

    private static void onlyTheNextRunSeesIt() {
        WarpMachine x = Op.machine(1, Op.LOAD, 0, 0, 0, Op.BUMP, 1, 0, 0);
        x.input(0, 4);
        Due.thread("input before the first run", x, 0, 0, 0, 0);
        x.run();
        x.input(0, 5);
        Due.thread("input after a run", x, 0, 2, 2, 1);
        Due.regs("input after a run", x, 0, 4, 0, 0, 0);
        Due.outputs("input after a run", x, 0, 4);
        x.run();
        Due.outputs("the next run", x, 0, 5);
        x.run();
        Due.outputs("input stays over runs", x, 0, 5);
    }
}
