import java.util.function.IntUnaryOperator;
import java.util.stream.IntStream;

/** Counts the answers that are not the ones due, sentence of the document by sentence. */
final class Due {
    static final int MIN = Integer.MIN_VALUE;
    static final int MAX = Integer.MAX_VALUE;

    /** Numbers that are less than that of any thread. */
    static final int[] BELOW_THREADS = {-1, -2, -3, -4, -5, -6, -7, -8, -9, -16, -32, -1000, MIN + 1, MIN};

    private static String words = "";
    private static int askedHere = 0;
    private static int asked = 0;
    private static int wrong = 0;

    private Due() {
    }

    /** Begins the test of a sentence, told in the document's words. */
    static void sentence(String newWords) {
        closeSentence();
        words = newWords;
        askedHere = 0;
    }

    // A test that asks nothing would hold whatever the class does.
    private static void closeSentence() {
        if (askedHere == 0 && !words.isEmpty()) {
            wrong++;
            System.out.println("[" + words + "] nothing was asked");
        }
    }

    static void is(String what, int got, int want) {
        asked++;
        askedHere++;
        if (got != want) {
            wrong++;
            System.out.println("[" + words + "] " + what + " answered " + got + ", due is " + want);
        }
    }

    /** Numbers that are more than that of any of n threads. */
    static int[] aboveThreads(int n) {
        return new int[] {n, n + 1, 8, 9, 15, 16, 31, 32, 256, 1000, MAX - 1, MAX};
    }

    /** The call answers want for each of these threads. */
    static void each(String what, IntUnaryOperator call, int[] threads, int want) {
        for (int t : threads) {
            is(what + "(" + t + ")", call.applyAsInt(t), want);
        }
    }

    /** The call answers want for each of n threads. */
    static void all(String what, IntUnaryOperator call, int n, int want) {
        each(what, call, IntStream.range(0, n).toArray(), want);
    }

    /** line, steps and state of a thread, in one. */
    static void thread(String what, WarpMachine x, int thread, int line, int steps, int state) {
        is(what + ": line(" + thread + ")", x.line(thread), line);
        is(what + ": steps(" + thread + ")", x.steps(thread), steps);
        is(what + ": state(" + thread + ")", x.state(thread), state);
    }

    static void regs(String what, WarpMachine x, int thread, int... want) {
        for (int i = 0; i < 4; i++) {
            is(what + ": reg(" + thread + ", " + i + ")", x.reg(thread, i), want[i]);
        }
    }

    /** The output cells: pairs of a cell and its value; every other cell is due to be 0. */
    static void outputs(String what, WarpMachine x, int... pairs) {
        int[] want = new int[16];
        for (int i = 0; i + 1 < pairs.length; i += 2) {
            want[pairs[i]] = pairs[i + 1];
        }
        for (int cell = 0; cell < 16; cell++) {
            is(what + ": output(" + cell + ")", x.output(cell), want[cell]);
        }
    }

    static void end() {
        closeSentence();
        System.out.println(wrong == 0 ? asked + " answers as due" : wrong + " of " + asked + " answers are not as due");
        if (wrong != 0 || asked == 0) {
            System.exit(1);
        }
    }
}
