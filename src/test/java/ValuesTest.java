/** Promises 14 and 15: what is constant on all ways that can be gone, and the counts. */
public final class ValuesTest {
    private static final int LOW = Integer.MIN_VALUE;
    private static final int HIGH = Integer.MAX_VALUE;
    private static final long NOWHERE = FlowSolver.NOWHERE;
    private static final long VARIES = FlowSolver.VARIES;
    private static final Check check = new Check();

    public static void main(String[] args) {
        notThere();
        constantsWorkedOut();
        whatVariesStaysSo();
        timesNought();
        beginningAndEnd();
        sameConstantFromAll();
        branchOnAConstant();
        branchWithBothEdgesToOne();
        longWayAgainstTheNumbers();
        loopThatStaysConstant();
        loopThatVaries();
        edgeThatOpensLate();
        closedBlocksAreNowhere();
        countsOfOthers();
        check.end();
    }

    private static void value(FlowSolver x, int b, int v, boolean end, long want) {
        check.due("value(" + b + ", " + v + ", " + end + ")", x.value(b, v, end), want);
    }

    private static void counts(FlowSolver x, String name, int... want) {
        for (int what = 0; what < 4; what++) {
            check.due(name + ": count(" + what + ")", x.count(what), want[what]);
        }
    }

    private static void notThere() {
        FlowSolver x = Check.blocks(2);
        x.exit(0, 1, 0, 1, 0);
        int[] notBlocks = {-1, 2, 15, 16, LOW, HIGH};
        for (int b : notBlocks) {
            value(x, b, 0, false, NOWHERE);
            value(x, b, 0, true, NOWHERE);
        }
        int[] notVariables = {-1, 6, LOW, HIGH};
        for (int v : notVariables) {
            value(x, 0, v, true, NOWHERE);
            value(x, 1, v, false, NOWHERE);
        }
        value(x, 1, 5, false, 0);
    }

    /** Variable 2 after 0 = a, 1 = b, 2 = 0 op 1. */
    private static void works(int op, int a, int b, int want) {
        FlowSolver x = Check.blocks(1);
        check.adds(x, new int[][] {{0, 0, 0, a, 0}, {0, 0, 1, b, 0}, {0, op, 2, 0, 1}});
        x.exit(0, 0, 2, 0, 0);
        check.due(a + " op " + op + " " + b, x.value(0, 2, true), want);
        x.run(0, 0, 0);
        check.due(a + " op " + op + " " + b + ", run", x.last(0), want);
    }

    private static void constantsWorkedOut() {
        works(0, 1, 2, 0);
        works(1, 8, 9, 8);
        works(2, HIGH, 1, LOW);
        works(2, 5, -7, -2);
        works(3, LOW, 1, HIGH);
        works(3, 5, 7, -2);
        works(4, 65536, 65536, 0);
        works(4, 1 << 30, 3, -(1 << 30));
        works(4, -5, 7, -35);
        works(5, 1, 2, 1);
        works(5, 2, 2, 0);
        works(5, 3, 2, 0);
        works(5, LOW, HIGH, 1);
        works(5, HIGH, LOW, 0);
        works(6, 7, 2, 3);
        works(6, -7, 2, -3);
        works(6, 7, -2, -3);
        works(6, -7, -2, 3);
        works(6, 7, 0, 0);
        works(6, 0, 0, 0);
        works(6, LOW, -1, LOW);
        works(6, LOW, 1, LOW);
        FlowSolver x = Check.blocks(1);
        x.add(0, 0, 0, LOW, 0);
        value(x, 0, 0, true, LOW);
        x.add(0, 0, 0, HIGH, 0);
        value(x, 0, 0, true, HIGH);
        x.add(0, 0, 0, -1, 0);
        value(x, 0, 0, true, -1);
    }

    private static void whatVariesStaysSo() {
        for (int op = 1; op <= 6; op++) {
            FlowSolver x = Check.blocks(1);
            x.parameters(1);
            x.add(0, 0, 1, 3, 0);
            x.add(0, op, 2, 0, 0);
            x.add(0, op, 3, 0, 1);
            x.add(0, op, 4, 1, 0);
            value(x, 0, 2, true, VARIES);
            value(x, 0, 3, true, VARIES);
            value(x, 0, 4, true, op == 1 ? 3 : VARIES);
        }
        // by 0 gives 0 in a run, but here only TIMES looks at a constant beside what VARIES
        FlowSolver x = Check.blocks(1);
        x.parameters(1);
        x.add(0, 6, 2, 0, 1);
        x.add(0, 6, 3, 1, 0);
        x.add(0, 7, 4, 0, 0);
        value(x, 0, 2, true, VARIES);
        value(x, 0, 3, true, VARIES);
        value(x, 0, 4, true, VARIES);
    }

    private static void timesNought() {
        FlowSolver x = Check.blocks(1);
        x.parameters(1);
        x.add(0, 4, 2, 0, 1);
        x.add(0, 4, 3, 1, 0);
        x.add(0, 0, 1, 1, 0);
        x.add(0, 4, 4, 0, 1);
        value(x, 0, 2, true, 0);
        value(x, 0, 3, true, 0);
        value(x, 0, 4, true, VARIES);
    }

    private static void beginningAndEnd() {
        FlowSolver x = Check.blocks(2);
        x.parameters(2);
        check.adds(x, new int[][] {{0, 0, 0, 4, 0}, {0, 2, 0, 0, 0}, {1, 7, 0, 0, 0}, {1, 2, 5, 3, 4}});
        x.exit(0, 1, 0, 1, 0);
        value(x, 0, 0, false, VARIES);
        value(x, 0, 0, true, 8);
        value(x, 1, 0, false, 8);
        value(x, 1, 0, true, VARIES);
        value(x, 1, 1, true, VARIES);
        value(x, 1, 5, true, 0);
    }

    private static void sameConstantFromAll() {
        FlowSolver x = Check.blocks(4);
        x.parameters(1);
        check.exits(x, new int[][] {{0, 2, 0, 1, 2}, {1, 1, 0, 3, 0}, {2, 1, 0, 3, 0}});
        check.adds(x, new int[][] {
            {1, 0, 1, 6, 0}, {2, 0, 1, 6, 0}, {1, 0, 2, 6, 0}, {2, 0, 2, 7, 0}, {1, 7, 3, 0, 0}});
        value(x, 3, 1, false, 6);
        value(x, 3, 2, false, VARIES);
        value(x, 3, 3, false, VARIES);
        value(x, 3, 4, false, 0);
        counts(x, "all open", 4, 4, 4, 4);
    }

    private static void branchOnAConstant() {
        FlowSolver x = Check.blocks(4);
        check.exits(x, new int[][] {{0, 2, 5, 1, 2}, {1, 1, 0, 3, 0}, {2, 1, 0, 3, 0}});
        check.adds(x, new int[][] {{1, 0, 1, 6, 0}, {2, 0, 1, 7, 0}});
        value(x, 3, 1, false, 7);
        value(x, 1, 0, false, NOWHERE);
        counts(x, "else", 4, 3, 4, 2);
        x.add(0, 0, 5, -1, 0);
        value(x, 3, 1, false, 6);
        value(x, 2, 0, false, NOWHERE);
        counts(x, "then", 4, 3, 4, 2);
        x.add(0, 7, 5, 0, 0);
        value(x, 3, 1, false, VARIES);
        counts(x, "both", 4, 4, 4, 4);
    }

    private static void branchWithBothEdgesToOne() {
        FlowSolver x = Check.blocks(2);
        x.exit(0, 2, 0, 1, 1);
        counts(x, "a constant opens one of two", 2, 2, 2, 1);
        x.parameters(1);
        counts(x, "what varies opens both", 2, 2, 2, 2);
        x.add(0, 0, 0, 9, 0);
        counts(x, "the constant at the end counts", 2, 2, 2, 1);
    }

    private static void longWayAgainstTheNumbers() {
        // each takes its else edge to the block below; each then edge stays closed
        FlowSolver x = Check.blocks(16);
        x.exit(0, 2, 0, 1, 15);
        for (int b = 15; b > 1; b--) {
            x.exit(b, 2, 0, b, b - 1);
        }
        x.add(0, 0, 5, 55, 0);
        value(x, 1, 5, true, 55);
        counts(x, "against the numbers", 16, 16, 30, 15);
        x.parameters(1);
        value(x, 1, 5, true, 55);
        counts(x, "against the numbers, all open", 16, 16, 30, 30);
    }

    private static void loopThatStaysConstant() {
        // 1 is set to 3 - 2, each time round the same; the way out never opens
        FlowSolver x = Check.blocks(4);
        check.adds(x, new int[][] {
            {0, 0, 1, 1, 0}, {0, 0, 2, 2, 0}, {0, 0, 3, 3, 0}, {2, 3, 1, 3, 2}, {3, 0, 1, 0, 0}});
        check.exits(x, new int[][] {{0, 1, 0, 1, 0}, {1, 2, 1, 2, 3}, {2, 1, 0, 1, 0}, {3, 1, 0, 1, 0}});
        value(x, 1, 1, false, 1);
        value(x, 2, 1, true, 1);
        value(x, 3, 1, true, NOWHERE);
        counts(x, "stays constant", 4, 3, 5, 3);
        check.due("stays in the loop", x.run(0, 0, 0), FlowSolver.CUT);
    }

    private static void loopThatVaries() {
        FlowSolver x = Check.blocks(3);
        check.adds(x, new int[][] {{0, 0, 1, 5, 0}, {0, 0, 2, 1, 0}, {1, 3, 1, 1, 2}});
        check.exits(x, new int[][] {{0, 1, 0, 1, 0}, {1, 2, 1, 1, 2}, {2, 0, 1, 0, 0}});
        value(x, 0, 1, true, 5);
        value(x, 1, 1, false, VARIES);
        value(x, 2, 1, false, VARIES);
        value(x, 2, 2, false, 1);
        counts(x, "varies", 3, 3, 3, 3);
    }

    private static void edgeThatOpensLate() {
        // a row of variables is handed on, each in the round after: only the last opens block 2
        FlowSolver x = Check.blocks(4);
        check.adds(x, new int[][] {
            {1, 1, 5, 4, 0}, {1, 1, 4, 3, 0}, {1, 1, 3, 2, 0}, {1, 1, 2, 1, 0}, {3, 0, 1, 1, 0},
            {2, 0, 0, 8, 0}});
        check.exits(x, new int[][] {{0, 1, 0, 1, 0}, {1, 2, 5, 2, 3}, {2, 0, 0, 0, 0}, {3, 1, 0, 1, 0}});
        value(x, 1, 1, false, VARIES);
        value(x, 1, 5, false, VARIES);
        value(x, 2, 0, true, 8);
        value(x, 2, 1, false, VARIES);
        counts(x, "late", 4, 4, 4, 4);
        FlowSolver y = Check.blocks(4);
        check.adds(y, new int[][] {{1, 1, 5, 4, 0}, {1, 1, 4, 3, 0}, {3, 0, 1, 1, 0}, {2, 0, 0, 8, 0}});
        check.exits(y, new int[][] {{0, 1, 0, 1, 0}, {1, 2, 5, 2, 3}, {2, 0, 0, 0, 0}, {3, 1, 0, 1, 0}});
        value(y, 1, 5, false, 0);
        value(y, 2, 0, true, NOWHERE);
        counts(y, "never", 4, 3, 4, 3);
    }

    private static void closedBlocksAreNowhere() {
        // 2 is not met, 3 is met but not open; neither makes anything of what it sets
        FlowSolver x = Check.blocks(4);
        check.exits(x, new int[][] {{0, 2, 0, 3, 1}, {2, 1, 0, 1, 0}, {3, 1, 0, 1, 0}});
        check.adds(x, new int[][] {{2, 0, 1, 6, 0}, {3, 7, 1, 0, 0}, {2, 7, 2, 0, 0}, {3, 0, 2, 1, 0}});
        for (int v = 0; v < 6; v++) {
            value(x, 2, v, false, NOWHERE);
            value(x, 2, v, true, NOWHERE);
            value(x, 3, v, false, NOWHERE);
            value(x, 3, v, true, NOWHERE);
            value(x, 1, v, false, 0);
        }
        counts(x, "closed", 3, 2, 3, 1);
    }

    private static void countsOfOthers() {
        FlowSolver x = Check.blocks(3);
        int[] others = {-1, 4, LOW, HIGH};
        for (int what : others) {
            check.due("count(" + what + ")", x.count(what), FlowSolver.BAD);
        }
        counts(x, "block 0 alone", 1, 1, 0, 0);
        // edges of blocks that are not met are not counted
        x.exit(1, 2, 0, 1, 2);
        counts(x, "still block 0 alone", 1, 1, 0, 0);
    }
}
