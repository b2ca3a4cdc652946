/** Promises 16 and 17: runs. */
public final class RunTest {
    private static final Check check = new Check();

    public static void main(String[] args) {
        othersBeginWithNought();
        branches();
        questionsLeaveTheRunAlone();
        readmeExample();
        check.end();
    }

    private static void othersBeginWithNought() {
        // each run begins anew: nothing is left over from the one before
        for (int v = 0; v < 6; v++) {
            FlowSolver x = Check.blocks(1);
            x.add(0, 2, v, v, 5);
            x.add(0, 0, 4, 1, 0);
            x.add(0, 2, v, v, 4);
            x.exit(0, 0, v, 0, 0);
            int want = v == 4 ? 2 : 1;
            x.run(50, 60, 70);
            check.due("variable " + v + ", first run", x.last(0), want);
            x.run(50, 60, 70);
            check.due("variable " + v + ", second run", x.last(0), want);
        }
    }

    private static void branches() {
        FlowSolver x = Check.blocks(3);
        x.parameters(1);
        check.adds(x, new int[][] {{1, 0, 1, 11, 0}, {2, 0, 1, 22, 0}});
        check.exits(x, new int[][] {{0, 2, 0, 1, 2}, {1, 0, 1, 0, 0}, {2, 0, 1, 0, 0}});
        int[] ways = {0, 1, -1, Check.LOW, Check.HIGH};
        for (int way : ways) {
            check.due("run(" + way + ")", x.run(way, 0, 0), FlowSolver.RETURNED);
            check.last(x, "branch on " + way, way == 0 ? 22 : 11, 2, way == 0 ? 2 : 1);
        }
    }

    private static void questionsLeaveTheRunAlone() {
        FlowSolver x = check.rounds();
        x.run(3, 0, 0);
        for (int b = 0; b < 3; b++) {
            x.parent(b);
            x.frontier(b);
            x.merges(b);
            x.depth(b);
            x.lives(b);
            x.needed(b);
            x.value(b, 0, true);
            x.count(b);
        }
        check.last(x, "after questions", 3, 5, 2);
        x.parameters(2);
        x.block();
        x.add(3, 0, 0, 1, 0);
        check.last(x, "after changes", 3, 5, 2);
    }

    private static void readmeExample() {
        FlowSolver x = Check.blocks(3);
        x.parameters(1);
        check.adds(x, new int[][] {{0, 0, 1, 5, 0}, {1, 2, 1, 1, 1}});
        check.exits(x, new int[][] {{0, 2, 0, 1, 2}, {1, 1, 0, 2, 0}, {2, 0, 1, 0, 0}});
        check.due("README: parent(2)", x.parent(2), 0);
        check.due("README: frontier(1)", x.frontier(1), 4);
        check.due("README: merges(2)", x.merges(2), 2);
        check.due("README: value(1, 1, true)", x.value(1, 1, true), 10);
        check.due("README: value(2, 1, false)", x.value(2, 1, false), FlowSolver.VARIES);
        check.due("README: run(3, 0, 0)", x.run(3, 0, 0), FlowSolver.RETURNED);
        check.due("README: last(0)", x.last(0), 10);
    }
}
