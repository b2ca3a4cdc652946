/** Promises 7 to 11 and what promise 18 says of them: dominators, frontiers, merges, loops. */
public final class DominanceTest {
    private static final Check check = new Check();

    public static void main(String[] args) {
        diamond();
        chainAgainstTheNumbers();
        notMetBlocksDoNotCount();
        bothEdgesToOne();
        selfLoop();
        nestedLoops();
        twoWaysIntoACircle();
        oneHeadTwoWaysBack();
        mergesOfMerges();
        mergesWithoutASetter();
        askedRightAfterAChange();
        check.end();
    }

    private static void parents(FlowSolver x, String name, int... want) {
        for (int b = 0; b < want.length; b++) {
            check.due(name + ": parent(" + b + ")", x.parent(b), want[b]);
        }
    }

    private static void frontiers(FlowSolver x, String name, int... want) {
        for (int b = 0; b < want.length; b++) {
            check.due(name + ": frontier(" + b + ")", x.frontier(b), want[b]);
        }
    }

    private static void merges(FlowSolver x, String name, int... want) {
        for (int b = 0; b < want.length; b++) {
            check.due(name + ": merges(" + b + ")", x.merges(b), want[b]);
        }
    }

    private static void depths(FlowSolver x, String name, int... want) {
        for (int b = 0; b < want.length; b++) {
            check.due(name + ": depth(" + b + ")", x.depth(b), want[b]);
        }
    }

    /** want[a] has the blocks that a dominates, as bits. */
    private static void dominated(FlowSolver x, String name, int... want) {
        for (int a = 0; a < want.length; a++) {
            for (int b = 0; b < want.length; b++) {
                String call = name + ": dominates(" + a + ", " + b + ")";
                check.due(call, x.dominates(a, b), (want[a] >> b & 1) != 0);
            }
        }
    }

    private static void diamond() {
        FlowSolver x = Check.blocks(5);
        check.exits(x, new int[][] {{0, 2, 0, 1, 2}, {1, 1, 0, 3, 0}, {2, 1, 0, 3, 0}, {3, 1, 0, 4, 0}});
        check.adds(x, new int[][] {{1, 0, 2, 7, 0}, {4, 0, 3, 7, 0}, {0, 0, 4, 7, 0}});
        parents(x, "diamond", -1, 0, 0, 0, 3);
        dominated(x, "diamond", 31, 2, 4, 24, 16);
        frontiers(x, "diamond", 0, 8, 8, 0, 0);
        // only variable 2 is set on one side; 3 and 4 are set where no ways meet again
        merges(x, "diamond", 0, 0, 0, 4, 0);
        depths(x, "diamond", 0, 0, 0, 0, 0);
    }

    private static void chainAgainstTheNumbers() {
        FlowSolver x = Check.blocks(16);
        x.exit(0, 1, 0, 15, 0);
        for (int b = 15; b > 1; b--) {
            x.exit(b, 1, 0, b - 1, 0);
        }
        parents(x, "chain", -1, 2, 3, 4, 5, 6, 7, 8, 9, 10, 11, 12, 13, 14, 15, 0);
        check.due("chain: 15 dominates 1", x.dominates(15, 1), true);
        check.due("chain: 9 dominates 3", x.dominates(9, 3), true);
        check.due("chain: 3 dominates 9", x.dominates(3, 9), false);
        check.due("chain: 1 dominates 0", x.dominates(1, 0), false);
        // the whole chain becomes one loop with the head 15
        x.exit(1, 1, 0, 15, 0);
        check.due("circle: frontier(1)", x.frontier(1), 1 << 15);
        check.due("circle: frontier(15)", x.frontier(15), 1 << 15);
        check.due("circle: frontier(0)", x.frontier(0), 0);
        for (int b = 0; b < 16; b++) {
            check.due("circle: depth(" + b + ")", x.depth(b), b == 0 ? 0 : 1);
        }
    }

    private static void notMetBlocksDoNotCount() {
        // 3 and 4 are not met: 3 leads into 2, and 4 is a loop of its own
        FlowSolver x = Check.blocks(5);
        check.exits(x, new int[][] {{0, 1, 0, 1, 0}, {1, 1, 0, 2, 0}, {3, 2, 0, 2, 1}, {4, 1, 0, 4, 0}});
        check.adds(x, new int[][] {{3, 0, 1, 9, 0}, {4, 0, 1, 9, 0}});
        parents(x, "not met", -1, 0, 1, -1, -1);
        dominated(x, "not met", 7, 6, 4, 0, 0);
        frontiers(x, "not met", 0, 0, 0, 0, 0);
        merges(x, "not met", 0, 0, 0, 0, 0);
        depths(x, "not met", 0, 0, 0, 0, 0);
        // a way back from a block that is not met makes no loop either
        x.exit(3, 1, 0, 1, 0);
        x.exit(2, 0, 0, 0, 0);
        depths(x, "no way back", 0, 0, 0, 0, 0);
        x.exit(2, 1, 0, 3, 0);
        depths(x, "a way back", 0, 1, 1, 1, 0);
        merges(x, "a way back", 0, 2, 0, 0, 0);
    }

    private static void bothEdgesToOne() {
        FlowSolver x = Check.blocks(3);
        check.exits(x, new int[][] {{0, 2, 0, 1, 1}, {1, 2, 0, 2, 2}});
        x.add(0, 0, 0, 1, 0);
        x.add(1, 0, 0, 2, 0);
        parents(x, "both", -1, 0, 1);
        dominated(x, "both", 7, 6, 4);
        frontiers(x, "both", 0, 0, 0);
        merges(x, "both", 0, 0, 0);
    }

    private static void selfLoop() {
        // the circle 1 -> 2 -> 1 around it stays out of the loop of head 2
        FlowSolver x = Check.blocks(4);
        check.exits(x, new int[][] {{0, 1, 0, 1, 0}, {1, 1, 0, 2, 0}, {2, 2, 0, 2, 3}});
        x.add(2, 7, 5, 0, 0);
        frontiers(x, "self", 0, 0, 4, 0);
        merges(x, "self", 0, 0, 32, 0);
        depths(x, "self", 0, 0, 1, 0);
        x.exit(3, 1, 0, 1, 0);
        frontiers(x, "self in a loop", 0, 2, 6, 2);
        merges(x, "self in a loop", 0, 32, 32, 0);
        depths(x, "self in a loop", 0, 1, 2, 1);
    }

    private static void nestedLoops() {
        // 1 { 2 { 3 } 4 } 5
        FlowSolver x = Check.blocks(6);
        check.exits(x, new int[][] {
            {0, 1, 0, 1, 0}, {1, 2, 0, 2, 5}, {2, 2, 0, 3, 4}, {3, 1, 0, 2, 0}, {4, 1, 0, 1, 0}});
        check.adds(x, new int[][] {{3, 0, 1, 1, 0}, {4, 0, 2, 1, 0}});
        parents(x, "nested", -1, 0, 1, 2, 2, 1);
        frontiers(x, "nested", 0, 2, 6, 4, 2, 0);
        merges(x, "nested", 0, 6, 2, 0, 0, 0);
        depths(x, "nested", 0, 1, 2, 2, 1, 0);
        // a block that is not met is in no loop, though it leads into the midst of both
        x.block();
        x.exit(6, 2, 0, 3, 4);
        depths(x, "nested, from outside", 0, 1, 2, 2, 1, 0, 0);
        parents(x, "nested, from outside", -1, 0, 1, 2, 2, 1, -1);
    }

    private static void twoWaysIntoACircle() {
        // 1 and 2 lead to each other, and neither dominates the other: no loop
        FlowSolver x = Check.blocks(4);
        check.exits(x, new int[][] {{0, 2, 0, 1, 2}, {1, 2, 0, 2, 3}, {2, 2, 0, 1, 3}});
        x.add(1, 0, 4, 1, 0);
        parents(x, "two ways in", -1, 0, 0, 0);
        dominated(x, "two ways in", 15, 2, 4, 8);
        frontiers(x, "two ways in", 0, 12, 10, 0);
        merges(x, "two ways in", 0, 16, 16, 16);
        depths(x, "two ways in", 0, 0, 0, 0);
    }

    private static void oneHeadTwoWaysBack() {
        // 3 and 4 both lead back to 1: one loop, not two
        FlowSolver x = Check.blocks(6);
        check.exits(x, new int[][] {
            {0, 1, 0, 1, 0}, {1, 2, 0, 2, 5}, {2, 2, 0, 3, 4}, {3, 1, 0, 1, 0}, {4, 2, 0, 1, 5}});
        depths(x, "one head", 0, 1, 1, 1, 1, 0);
        frontiers(x, "one head", 0, 2, 34, 2, 34, 0);
        parents(x, "one head", -1, 0, 1, 2, 2, 1);
    }

    private static void mergesOfMerges() {
        // the merge at 3 is itself what merges at 5
        FlowSolver x = Check.blocks(7);
        check.exits(x, new int[][] {
            {0, 2, 0, 1, 4}, {1, 2, 0, 2, 3}, {2, 1, 0, 3, 0}, {3, 1, 0, 5, 0}, {4, 1, 0, 5, 0},
            {5, 1, 0, 6, 0}});
        check.adds(x, new int[][] {{2, 0, 0, 1, 0}, {4, 0, 1, 1, 0}, {2, 0, 5, 1, 0}});
        merges(x, "merges", 0, 0, 0, 33, 0, 35, 0);
        check.due("merges: frontier(2) has 3 alone", x.frontier(2), 8);
    }

    private static void mergesWithoutASetter() {
        FlowSolver x = Check.blocks(3);
        x.parameters(3);
        check.exits(x, new int[][] {{0, 1, 0, 1, 0}, {1, 2, 0, 1, 2}});
        // block 0 sets all, but nothing else does
        merges(x, "no setter", 0, 0, 0);
        x.add(0, 0, 3, 1, 0);
        merges(x, "set in 0", 0, 0, 0);
        x.add(1, 1, 3, 3, 0);
        merges(x, "set in 1", 0, 8, 0);
    }

    private static void askedRightAfterAChange() {
        FlowSolver x = Check.blocks(3);
        x.exit(0, 1, 0, 1, 0);
        x.exit(1, 1, 0, 2, 0);
        check.due("asked first", x.dominates(1, 2), true);
        x.exit(0, 2, 0, 1, 2);
        check.due("a way round", x.dominates(1, 2), false);
        x.exit(0, 1, 0, 2, 0);
        check.due("1 is not met any more", x.dominates(1, 1), false);
        check.due("and dominates nothing", x.dominates(1, 2), false);
        check.due("and has no parent", x.parent(1), -1);
        check.due("and no frontier", x.frontier(1), 0);
    }
}
