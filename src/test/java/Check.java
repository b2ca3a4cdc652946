import java.util.stream.IntStream;

/** Counts the answers that are not the ones that are due; what the tests of the project share. */
final class Check {
    static final int LOW = Integer.MIN_VALUE;
    static final int HIGH = Integer.MAX_VALUE;
    private static final int SHOWN = 40;
    private int answers = 0;
    private int wrong = 0;

    void due(String call, long got, long want) {
        answers++;
        if (got != want) {
            wrong++;
            if (wrong <= SHOWN) {
                System.out.println(call + " answered " + got + ", due is " + want);
            }
        }
    }

    void due(String call, boolean got, boolean want) {
        due(call, got ? 1L : 0L, want ? 1L : 0L);
    }

    void fault(String what) {
        due(what, 1L, 0L);
    }

    boolean clean() {
        return wrong == 0;
    }

    /** Ends the test: a test that has asked nothing has not passed either. */
    void end() {
        if (answers == 0 || wrong != 0) {
            System.out.println(wrong + " of " + answers + " answers are not as due");
            System.exit(1);
        }
        System.out.println("all " + answers + " answers are as due");
    }

    /**
     * Ints that are not in 0..n - 1: the nearest ones, the greatest and the least, and some that a
     * shift or a mask would take for one that is.
     */
    static int[] outside(int n) {
        IntStream near = IntStream.of(-1, n, n + 1, -n - 1);
        IntStream alike = IntStream.of(16, 31, 32, 33, 64, 256, 65536, -16, -32, -64, 1 << 30);
        IntStream far = IntStream.of(LOW, LOW + 1, HIGH - 1, HIGH);
        IntStream all = IntStream.concat(near, IntStream.concat(alike, far));
        return all.filter(i -> i < 0 || i >= n).distinct().toArray();
    }

    /** A new object with blocks 0..n - 1. */
    static FlowSolver blocks(int n) {
        FlowSolver x = new FlowSolver();
        for (int i = 0; i < n; i++) {
            x.block();
        }
        return x;
    }

    /** Rows {block, kind, v, t, e} of exits that must all be taken. */
    void exits(FlowSolver x, int[][] rows) {
        for (int[] r : rows) {
            String call = "exit(" + r[0] + ", " + r[1] + ", " + r[2] + ", " + r[3] + ", " + r[4] + ")";
            due(call, x.exit(r[0], r[1], r[2], r[3], r[4]), true);
        }
    }

    /** Rows {block, op, d, a, b} of instructions that must all be taken. */
    void adds(FlowSolver x, int[][] rows) {
        for (int[] r : rows) {
            String call = "add(" + r[0] + ", " + r[1] + ", " + r[2] + ", " + r[3] + ", " + r[4] + ")";
            due(call + " is above 0", x.add(r[0], r[1], r[2], r[3], r[4]) > 0, true);
        }
    }

    /** What count answers for 0..3. */
    void counts(FlowSolver x, String name, int... want) {
        for (int what = 0; what < 4; what++) {
            due(name + ": count(" + what + ")", x.count(what), want[what]);
        }
    }

    /** What last answers of the latest run, and for others. */
    void last(FlowSolver x, String name, int returned, int begun, int block) {
        int[] want = {0, returned, begun, block, 0};
        for (int what = -1; what <= 3; what++) {
            due(name + ": last(" + what + ")", x.last(what), want[what + 1]);
        }
    }

    /** A run with k begins k + 2 blocks: 0, then block 1 k times, then block 2, which returns k. */
    FlowSolver rounds() {
        FlowSolver x = blocks(3);
        x.parameters(1);
        adds(x, new int[][] {{0, 0, 1, 1, 0}, {1, 3, 0, 0, 1}, {1, 2, 2, 2, 1}});
        exits(x, new int[][] {{0, 1, 0, 1, 0}, {1, 2, 0, 1, 2}, {2, 0, 2, 0, 0}});
        return x;
    }
}
