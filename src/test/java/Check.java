/** Counts the answers that are not the ones that are due; what the tests of the project share. */
final class Check {
    private static final int SHOWN = 40;
    private int answers = 0;
    private int wrong = 0;

    void due(String call, long got, long want) {
        answers++;
        if (got != want) {
            wrong++;
            if (wrong <= SHOWN) {
                System.out.println(call + " answered " + got + ", due is " + want);
            }
        }
    }

    void due(String call, boolean got, boolean want) {
        due(call, got ? 1L : 0L, want ? 1L : 0L);
    }

    void fault(String what) {
        due(what, 1L, 0L);
    }

    boolean clean() {
        return wrong == 0;
    }

    /** Ends the test: a test that has asked nothing has not passed either. */
    void end() {
        if (answers == 0 || wrong != 0) {
            System.out.println(wrong + " of " + answers + " answers are not as due");
            System.exit(1);
        }
        System.out.println("all " + answers + " answers are as due");
    }

    /** A new object with blocks 0..n - 1. */
    static FlowSolver blocks(int n) {
        FlowSolver x = new FlowSolver();
        for (int i = 0; i < n; i++) {
            x.block();
        }
        return x;
    }

    /** Rows {block, kind, v, t, e} of exits that must all be taken. */
    void exits(FlowSolver x, int[][] rows) {
        for (int[] r : rows) {
            String call = "exit(" + r[0] + ", " + r[1] + ", " + r[2] + ", " + r[3] + ", " + r[4] + ")";
            due(call, x.exit(r[0], r[1], r[2], r[3], r[4]), true);
        }
    }

    /** Rows {block, op, d, a, b} of instructions that must all be taken. */
    void adds(FlowSolver x, int[][] rows) {
        for (int[] r : rows) {
            String call = "add(" + r[0] + ", " + r[1] + ", " + r[2] + ", " + r[3] + ", " + r[4] + ")";
            due(call + " is above 0", x.add(r[0], r[1], r[2], r[3], r[4]) > 0, true);
        }
    }
}
