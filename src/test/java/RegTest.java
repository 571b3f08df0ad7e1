/** Promise 6. */
final class RegTest {
    public static void main(String[] args) {
        WarpMachine x = Op.machine(3,
                Op.SELF, 0, 0, 0, Op.SET, 1, 10, 0, Op.ADD, 1, 1, 0, Op.SET, 2, 20, 0, Op.ADD, 2, 2, 0,
                Op.SET, 3, 30, 0, Op.ADD, 3, 3, 0);
        strangers(x);
        x.run();
        for (int t = 0; t < 3; t++) {
            Due.regs("reg", x, t, t, 10 + t, 20 + t, 30 + t);
            int[][] masked = {{4, 0}, {7, 3}, {-1, 3}, {-4, 0}, {-3, 1}, {Integer.MIN_VALUE, 0}, {Integer.MAX_VALUE, 3}};
            for (int[] pair : masked) {
                Due.is("reg(" + t + ", " + pair[0] + ")", x.reg(t, pair[0]), 10 * pair[1] + t);
            }
        }
        strangers(x);
        Due.end();
    }

    private static void strangers(WarpMachine x) {
        for (int t = 3; t < 8; t++) {
            Due.regs("no such thread", x, t, 0, 0, 0, 0);
        }
        for (int t : Due.FAR) {
            Due.regs("no such thread", x, t, 0, 0, 0, 0);
            Due.is("no such thread, index far off", x.reg(t, Integer.MIN_VALUE), 0);
            Due.is("no such thread, index far off", x.reg(t, -1), 0);
        }
    }
}
