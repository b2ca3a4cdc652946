/** Promises 16 and 17 and what promise 18 says of them: runs. */
public final class RunTest {
    private static final int LOW = Integer.MIN_VALUE;
    private static final int HIGH = Integer.MAX_VALUE;
    private static final Check check = new Check();

    public static void main(String[] args) {
        withoutBlocks();
        parametersAsFarAsThereAre();
        othersBeginWithNought();
        inputs();
        inputsWrapAndAreAsGiven();
        branches();
        cutAfterTwoHundred();
        cutForgetsTheValue();
        lastOfOthers();
        questionsLeaveTheRunAlone();
        readmeExample();
        check.end();
    }

    private static void last(FlowSolver x, String name, int returned, int begun, int block) {
        check.due(name + ": last(0)", x.last(0), returned);
        check.due(name + ": last(1)", x.last(1), begun);
        check.due(name + ": last(2)", x.last(2), block);
    }

    private static void withoutBlocks() {
        FlowSolver x = new FlowSolver();
        check.due("no blocks", x.run(1, 2, 3), FlowSolver.BAD);
        last(x, "no blocks", 0, 0, 0);
        x.block();
        x.block();
        x.parameters(1);
        x.exit(0, 1, 0, 1, 0);
        check.due("blocks", x.run(9, 2, 3), FlowSolver.RETURNED);
        last(x, "blocks", 9, 2, 1);
        x.clear();
        check.due("no blocks again", x.run(5, 2, 3), FlowSolver.BAD);
        last(x, "a BAD run changes nothing", 9, 2, 1);
    }

    private static void parametersAsFarAsThereAre() {
        FlowSolver x = Check.blocks(1);
        check.adds(x, new int[][] {{0, 0, 5, 10, 0}, {0, 4, 1, 1, 5}, {0, 2, 0, 0, 1}, {0, 2, 0, 0, 2}});
        int[] want = {0, 1, 21, 321};
        for (int k = 0; k <= 3; k++) {
            x.parameters(k);
            check.due(k + " parameters: run", x.run(1, 2, 300), FlowSolver.RETURNED);
            check.due(k + " parameters: last(0)", x.last(0), want[k]);
        }
    }

    private static void othersBeginWithNought() {
        // each run begins anew: nothing is left over from the one before
        for (int v = 0; v < 6; v++) {
            FlowSolver x = Check.blocks(1);
            x.add(0, 2, v, v, 5);
            x.add(0, 0, 4, 1, 0);
            x.add(0, 2, v, v, 4);
            x.exit(0, 0, v, 0, 0);
            int want = v == 4 ? 2 : 1;
            x.run(50, 60, 70);
            check.due("variable " + v + ", first run", x.last(0), want);
            x.run(50, 60, 70);
            check.due("variable " + v + ", second run", x.last(0), want);
        }
    }

    private static void inputs() {
        FlowSolver x = Check.blocks(2);
        check.adds(x, new int[][] {
            {0, 7, 1, 0, 0}, {0, 7, 2, 0, 0}, {1, 7, 3, 0, 0}, {1, 7, 4, 0, 0}});
        x.exit(0, 1, 0, 1, 0);
        for (int n = 0; n < 4; n++) {
            x.exit(1, 0, n + 1, 0, 0);
            x.run(100, 7, 0);
            check.due("INPUT " + n, x.last(0), 100 + n * 7);
            x.run(100, 7, 0);
            check.due("INPUT " + n + " again, counted anew", x.last(0), 100 + n * 7);
        }
        // the parameters may be set and there may be none: the INPUTs stay the same
        FlowSolver y = Check.blocks(1);
        check.adds(y, new int[][] {{0, 0, 0, 0, 0}, {0, 0, 1, 0, 0}, {0, 7, 2, 0, 0}, {0, 7, 2, 0, 0}});
        y.exit(0, 0, 2, 0, 0);
        for (int k = 0; k <= 3; k++) {
            y.parameters(k);
            y.run(-3, 8, 1000);
            check.due("second INPUT with " + k + " parameters", y.last(0), 5);
        }
    }

    private static void inputsWrapAndAreAsGiven() {
        FlowSolver x = Check.blocks(1);
        check.adds(x, new int[][] {{0, 7, 0, 0, 0}, {0, 7, 1, 0, 0}, {0, 7, 2, 0, 0}, {0, 7, 3, 0, 0}});
        x.exit(0, 0, 3, 0, 0);
        x.run(HIGH, HIGH, 0);
        check.due("fourth INPUT wraps", x.last(0), HIGH + 3 * HIGH);
        x.run(LOW, LOW, 0);
        check.due("fourth INPUT wraps below", x.last(0), LOW + 3 * LOW);
        x.exit(0, 0, 0, 0, 0);
        x.run(HIGH, LOW, 0);
        check.due("first INPUT is a", x.last(0), HIGH);
    }

    private static void branches() {
        FlowSolver x = Check.blocks(3);
        x.parameters(1);
        check.adds(x, new int[][] {{1, 0, 1, 11, 0}, {2, 0, 1, 22, 0}});
        check.exits(x, new int[][] {{0, 2, 0, 1, 2}, {1, 0, 1, 0, 0}, {2, 0, 1, 0, 0}});
        int[] ways = {0, 1, -1, LOW, HIGH};
        for (int way : ways) {
            check.due("run(" + way + ")", x.run(way, 0, 0), FlowSolver.RETURNED);
            last(x, "branch on " + way, way == 0 ? 22 : 11, 2, way == 0 ? 2 : 1);
        }
    }

    /** Begins k + 2 blocks: 0, then block 1 k times, then block 2. */
    private static FlowSolver rounds() {
        FlowSolver x = Check.blocks(3);
        x.parameters(1);
        check.adds(x, new int[][] {{0, 0, 1, 1, 0}, {1, 3, 0, 0, 1}, {1, 2, 2, 2, 1}});
        check.exits(x, new int[][] {{0, 1, 0, 1, 0}, {1, 2, 0, 1, 2}, {2, 0, 2, 0, 0}});
        return x;
    }

    private static void cutAfterTwoHundred() {
        FlowSolver x = rounds();
        check.due("200 blocks", x.run(198, 0, 0), FlowSolver.RETURNED);
        last(x, "200 blocks", 198, 200, 2);
        check.due("201 blocks", x.run(199, 0, 0), FlowSolver.CUT);
        last(x, "201 blocks", 0, 200, 1);
        check.due("199 blocks", x.run(197, 0, 0), FlowSolver.RETURNED);
        last(x, "199 blocks", 197, 199, 2);
        check.due("without end", x.run(0, 0, 0), FlowSolver.CUT);
        last(x, "without end", 0, 200, 1);
    }

    private static void cutForgetsTheValue() {
        FlowSolver x = rounds();
        x.run(3, 0, 0);
        last(x, "returned", 3, 5, 2);
        x.exit(1, 1, 0, 2, 0);
        x.exit(2, 1, 0, 1, 0);
        check.due("1 and 2 in turn", x.run(3, 0, 0), FlowSolver.CUT);
        last(x, "cut", 0, 200, 1);
        x.exit(0, 1, 0, 2, 0);
        x.run(3, 0, 0);
        last(x, "2 and 1 in turn", 0, 200, 2);
    }

    private static void lastOfOthers() {
        FlowSolver x = Check.blocks(1);
        x.parameters(1);
        x.run(8, 8, 8);
        int[] others = {-1, 3, 4, LOW, HIGH};
        for (int what : others) {
            check.due("last(" + what + ")", x.last(what), 0);
        }
        last(x, "still there", 8, 1, 0);
    }

    private static void questionsLeaveTheRunAlone() {
        FlowSolver x = rounds();
        x.run(3, 0, 0);
        for (int b = 0; b < 3; b++) {
            x.parent(b);
            x.frontier(b);
            x.merges(b);
            x.depth(b);
            x.lives(b);
            x.needed(b);
            x.value(b, 0, true);
            x.count(b);
        }
        last(x, "after questions", 3, 5, 2);
        x.parameters(2);
        x.block();
        x.add(3, 0, 0, 1, 0);
        last(x, "after changes", 3, 5, 2);
    }

    private static void readmeExample() {
        FlowSolver x = Check.blocks(3);
        x.parameters(1);
        check.adds(x, new int[][] {{0, 0, 1, 5, 0}, {1, 2, 1, 1, 1}});
        check.exits(x, new int[][] {{0, 2, 0, 1, 2}, {1, 1, 0, 2, 0}, {2, 0, 1, 0, 0}});
        check.due("README: parent(2)", x.parent(2), 0);
        check.due("README: frontier(1)", x.frontier(1), 4);
        check.due("README: merges(2)", x.merges(2), 2);
        check.due("README: value(1, 1, true)", x.value(1, 1, true), 10);
        check.due("README: value(2, 1, false)", x.value(2, 1, false), FlowSolver.VARIES);
        check.due("README: run(3, 0, 0)", x.run(3, 0, 0), FlowSolver.RETURNED);
        check.due("README: last(0)", x.last(0), 10);
    }
}
