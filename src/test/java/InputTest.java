/** Promise 4. */
final class InputTest {
    public static void main(String[] args) {
        Due.sentence("The input cell becomes value: each of the 16");
        everyCell();
        Due.sentence("The input cell becomes value: any int, the newest one");
        anyValue();
        Due.sentence("The input cell cell & 15: too large");
        masked(new int[][] {
                {16, 0}, {17, 1}, {31, 15}, {32, 0}, {255, 15}, {262, 6}, {Due.MAX - 1, 14}, {Due.MAX, 15}});
        Due.sentence("The input cell cell & 15: too small");
        masked(new int[][] {
                {-1, 15}, {-2, 14}, {-14, 2}, {-15, 1}, {-16, 0}, {-17, 15}, {Due.MIN, 0}, {Due.MIN + 1, 1}});
        Due.sentence("results of the last run don't change, the next run sees the cell");
        onlyTheNextRunSeesIt();
        Due.end();
    }

    private static int load(WarpMachine x, int cell) {
        x.clear();
        Op.add(x, Op.SET, 1, cell, 0, Op.LOAD, 0, 1, 0);
        x.run();
        return x.reg(0, 0);
    }

    private static void everyCell() {
        WarpMachine x = new WarpMachine(1);
        for (int cell = 0; cell < 16; cell++) {
            Due.is("new input cell " + cell, load(x, cell), 0);
            x.input(cell, 100 + cell);
        }
        for (int cell = 0; cell < 16; cell++) {
            Due.is("input cell " + cell, load(x, cell), 100 + cell);
        }
    }

    private static void anyValue() {
        WarpMachine x = new WarpMachine(1);
        int[] values = {Due.MIN, Due.MAX, -1, 0, 1, 65536, -32769, Due.MIN + 1};
        for (int value : values) {
            x.input(3, value);
            Due.is("input cell 3", load(x, 3), value);
        }
        x.input(3, 6);
        x.input(3, 7);
        Due.is("input cell 3 after two inputs", load(x, 3), 7);
    }

    private static void masked(int[][] cells) {
        for (int[] pair : cells) {
            WarpMachine x = new WarpMachine(1);
            x.input(pair[0], 9);
            for (int cell = 0; cell < 16; cell++) {
                Due.is("cell " + cell + " after input(" + pair[0] + ", 9)", load(x, cell), cell == pair[1] ? 9 : 0);
            }
        }
    }

    private static void onlyTheNextRunSeesIt() {
        WarpMachine x = Op.machine(2, Op.LOAD, 0, 0, 0, Op.BUMP, 1, 0, 0);
        x.input(0, 4);
        Due.thread("input before the first run", x, 0, 0, 0, 0);
        Due.outputs("input before the first run", x);
        x.run();
        x.input(0, 5);
        Due.thread("input after a run", x, 0, 2, 2, 1);
        Due.regs("input after a run", x, 1, 4, 0, 0, 0);
        Due.outputs("input after a run", x, 0, 8);
        x.run();
        Due.outputs("the next run", x, 0, 10);
        x.run();
        Due.outputs("input stays over runs", x, 0, 10);
    }
}
