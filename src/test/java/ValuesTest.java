/** Promises 14 and 15: what is constant on all ways that can be gone. */
public final class ValuesTest {
    private static final long NOWHERE = FlowSolver.NOWHERE;
    private static final long VARIES = FlowSolver.VARIES;
    private static final Check check = new Check();

    public static void main(String[] args) {
        beginningAndEnd();
        branchOnAConstant();
        longWayAgainstTheNumbers();
        loopThatStaysConstant();
        loopThatVaries();
        edgeThatOpensLate();
        check.end();
    }

    private static void value(FlowSolver x, int b, int v, boolean end, long want) {
        check.due("value(" + b + ", " + v + ", " + end + ")", x.value(b, v, end), want);
    }

    private static void beginningAndEnd() {
        FlowSolver x = Check.blocks(2);
        x.parameters(2);
        check.adds(x, new int[][] {{0, 0, 0, 4, 0}, {0, 2, 0, 0, 0}, {1, 7, 0, 0, 0}, {1, 2, 5, 3, 4}});
        x.exit(0, 1, 0, 1, 0);
        value(x, 0, 0, false, VARIES);
        value(x, 0, 0, true, 8);
        value(x, 1, 0, false, 8);
        value(x, 1, 0, true, VARIES);
        value(x, 1, 1, true, VARIES);
        value(x, 1, 5, true, 0);
    }

    private static void branchOnAConstant() {
        FlowSolver x = Check.blocks(4);
        check.exits(x, new int[][] {{0, 2, 5, 1, 2}, {1, 1, 0, 3, 0}, {2, 1, 0, 3, 0}});
        check.adds(x, new int[][] {{1, 0, 1, 6, 0}, {2, 0, 1, 7, 0}});
        value(x, 3, 1, false, 7);
        value(x, 1, 0, false, NOWHERE);
        check.counts(x, "else", 4, 3, 4, 2);
        x.add(0, 0, 5, -1, 0);
        value(x, 3, 1, false, 6);
        value(x, 2, 0, false, NOWHERE);
        check.counts(x, "then", 4, 3, 4, 2);
        x.add(0, 7, 5, 0, 0);
        value(x, 3, 1, false, VARIES);
        check.counts(x, "both", 4, 4, 4, 4);
    }

    private static void longWayAgainstTheNumbers() {
        // each takes its else edge to the block below; each then edge stays closed
        FlowSolver x = Check.blocks(16);
        x.exit(0, 2, 0, 1, 15);
        for (int b = 15; b > 1; b--) {
            x.exit(b, 2, 0, b, b - 1);
        }
        x.add(0, 0, 5, 55, 0);
        value(x, 1, 5, true, 55);
        check.counts(x, "against the numbers", 16, 16, 30, 15);
        x.parameters(1);
        value(x, 1, 5, true, 55);
        check.counts(x, "against the numbers, all open", 16, 16, 30, 30);
    }

    private static void loopThatStaysConstant() {
        // 1 is set to 3 - 2, each time round the same; the way out never opens
        FlowSolver x = Check.blocks(4);
        check.adds(x, new int[][] {
            {0, 0, 1, 1, 0}, {0, 0, 2, 2, 0}, {0, 0, 3, 3, 0}, {2, 3, 1, 3, 2}, {3, 0, 1, 0, 0}});
        check.exits(x, new int[][] {{0, 1, 0, 1, 0}, {1, 2, 1, 2, 3}, {2, 1, 0, 1, 0}, {3, 1, 0, 1, 0}});
        value(x, 1, 1, false, 1);
        value(x, 2, 1, true, 1);
        value(x, 3, 1, true, NOWHERE);
        check.counts(x, "stays constant", 4, 3, 5, 3);
        check.due("stays in the loop", x.run(0, 0, 0), FlowSolver.CUT);
    }

    private static void loopThatVaries() {
        FlowSolver x = Check.blocks(3);
        check.adds(x, new int[][] {{0, 0, 1, 5, 0}, {0, 0, 2, 1, 0}, {1, 3, 1, 1, 2}});
        check.exits(x, new int[][] {{0, 1, 0, 1, 0}, {1, 2, 1, 1, 2}, {2, 0, 1, 0, 0}});
        value(x, 0, 1, true, 5);
        value(x, 1, 1, false, VARIES);
        value(x, 2, 1, false, VARIES);
        value(x, 2, 2, false, 1);
        check.counts(x, "varies", 3, 3, 3, 3);
    }

    private static void edgeThatOpensLate() {
        // a row of variables is handed on, each in the round after: only the last opens block 2
        FlowSolver x = Check.blocks(4);
        check.adds(x, new int[][] {
            {1, 1, 5, 4, 0}, {1, 1, 4, 3, 0}, {1, 1, 3, 2, 0}, {1, 1, 2, 1, 0}, {3, 0, 1, 1, 0},
            {2, 0, 0, 8, 0}});
        check.exits(x, new int[][] {{0, 1, 0, 1, 0}, {1, 2, 5, 2, 3}, {2, 0, 0, 0, 0}, {3, 1, 0, 1, 0}});
        value(x, 1, 1, false, VARIES);
        value(x, 1, 5, false, VARIES);
        value(x, 2, 0, true, 8);
        value(x, 2, 1, false, VARIES);
        check.counts(x, "late", 4, 4, 4, 4);
        FlowSolver y = Check.blocks(4);
        check.adds(y, new int[][] {{1, 1, 5, 4, 0}, {1, 1, 4, 3, 0}, {3, 0, 1, 1, 0}, {2, 0, 0, 8, 0}});
        check.exits(y, new int[][] {{0, 1, 0, 1, 0}, {1, 2, 5, 2, 3}, {2, 0, 0, 0, 0}, {3, 1, 0, 1, 0}});
        value(y, 1, 5, false, 0);
        value(y, 2, 0, true, NOWHERE);
        check.counts(y, "never", 4, 3, 4, 3);
    }
}
