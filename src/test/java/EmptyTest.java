/** Objects with no blocks, new or cleared, and blocks with nothing in them. */
public final class EmptyTest {
    private static final int BAD = FlowSolver.BAD;
    private static final Check check = new Check();

    public static void main(String[] args) {
        newObject();
        nothingWasRun();
        newObjectHasNoParameters();
        clearedObject();
        clearAnswersHowManyThereWere();
        clearTakesTheParameters();
        clearTakesInstructionsAndExits();
        clearLeavesTheLatestRun();
        runWithoutBlocksChangesNothing();
        parametersWithoutBlocks();
        newBlock();
        emptyBlocksAreGoneThrough();
        check.end();
    }

    /** All that can be asked of an object without blocks, and all that it must refuse. */
    private static void noBlocks(FlowSolver x, String name) {
        for (int b : new int[] {Check.LOW, -1, 0, 1, 2, 15, 16, Check.HIGH}) {
            String of = "(" + b + ")";
            check.due(name + ": parent" + of, x.parent(b), -1);
            check.due(name + ": dominates itself" + of, x.dominates(b, b), false);
            check.due(name + ": dominates 0" + of, x.dominates(b, 0), false);
            check.due(name + ": frontier" + of, x.frontier(b), 0);
            check.due(name + ": merges" + of, x.merges(b), 0);
            check.due(name + ": depth" + of, x.depth(b), -1);
            check.due(name + ": lives" + of, x.lives(b), -1);
            check.due(name + ": needed" + of, x.needed(b), 0);
            check.due(name + ": add" + of, x.add(b, 0, 0, 0, 0), BAD);
            check.due(name + ": RETURN" + of, x.exit(b, 0, 0, 0, 0), false);
            check.due(name + ": GO" + of, x.exit(0, 1, 0, b, b), false);
            check.due(name + ": BRANCH" + of, x.exit(b, 2, 0, b, b), false);
            for (int v = -1; v <= 6; v++) {
                check.due(name + ": value" + of, x.value(b, v, false), FlowSolver.NOWHERE);
                check.due(name + ": value at the end" + of, x.value(b, v, true), FlowSolver.NOWHERE);
            }
        }
        int[] counts = {BAD, 0, 0, 0, 0, BAD};
        for (int what = -1; what <= 4; what++) {
            check.due(name + ": count(" + what + ")", x.count(what), counts[what + 1]);
        }
        check.due(name + ": run", x.run(1, 2, 3), BAD);
    }

    // Promise 1: "No blocks"
    private static void newObject() {
        noBlocks(new FlowSolver(), "new");
        check.due("new: clear", new FlowSolver().clear(), 0);
        check.due("new: block", new FlowSolver().block(), 0);
    }

    // Promise 1: "nothing was run"; promise 17: "0 .. if there was none"
    private static void nothingWasRun() {
        FlowSolver x = new FlowSolver();
        check.last(x, "new", 0, 0, 0);
        x.block();
        x.block();
        x.parameters(3);
        x.exit(0, 1, 0, 1, 0);
        check.last(x, "built, not run", 0, 0, 0);
    }

    // Promise 1: "no parameters"
    private static void newObjectHasNoParameters() {
        FlowSolver x = Check.blocks(1);
        for (int v = 0; v < 6; v++) {
            check.due("new: variable " + v + " begins with 0", x.value(0, v, false), 0);
            x.exit(0, 0, v, 0, 0);
            x.run(51, 52, 53);
            check.due("new: run, variable " + v + " begins with 0", x.last(0), 0);
        }
    }

    /** A program in which each question has an answer of its own, after a run. */
    private static FlowSolver built() {
        FlowSolver x = Check.blocks(4);
        x.parameters(3);
        check.adds(x, new int[][] {{0, 0, 4, 4, 0}, {1, 2, 0, 0, 4}, {2, 0, 3, 33, 0}, {3, 1, 5, 4, 0}});
        check.exits(x, new int[][] {{0, 2, 1, 1, 2}, {1, 2, 0, 1, 3}, {2, 1, 0, 3, 0}, {3, 0, 3, 0, 0}});
        check.due("built: run", x.run(70, 0, 0), FlowSolver.RETURNED);
        check.last(x, "built", 33, 3, 3);
        return x;
    }

    // Promise 6: "All blocks go", and with them all that was answered of them before
    private static void clearedObject() {
        FlowSolver x = built();
        check.counts(x, "built", 4, 4, 5, 5);
        for (int b = 0; b < 4; b++) {
            check.due("built: lives(" + b + ") is there", x.lives(b) > 0, true);
            check.due("built: value(" + b + ", 4, true)", x.value(b, 4, true), 4);
            check.due("built: dominates(0, " + b + ")", x.dominates(0, b), true);
        }
        x.clear();
        noBlocks(x, "cleared");
        check.due("cleared: clear", x.clear(), 0);
    }

    // Promise 6: "how many blocks there were"
    private static void clearAnswersHowManyThereWere() {
        FlowSolver x = new FlowSolver();
        for (int n = 0; n <= 16; n++) {
            for (int b = 0; b < n; b++) {
                check.due("cleared: block", x.block(), b);
            }
            check.due("clear of " + n, x.clear(), n);
        }
        check.due("clear again", x.clear(), 0);
    }

    // Promise 6: "and the parameters"
    private static void clearTakesTheParameters() {
        for (int k = 0; k <= 3; k++) {
            FlowSolver x = new FlowSolver();
            x.parameters(k);
            check.due("clear of no blocks", x.clear(), 0);
            x.block();
            for (int v = 0; v < 6; v++) {
                check.due("cleared of " + k + ": variable " + v, x.value(0, v, false), 0);
                x.exit(0, 0, v, 0, 0);
                x.run(51, 52, 53);
                check.due("cleared of " + k + ": run, variable " + v, x.last(0), 0);
            }
        }
    }

    // Promises 6 and 2: nothing of a block that has gone is left in one that comes
    private static void clearTakesInstructionsAndExits() {
        FlowSolver x = built();
        x.clear();
        for (int b = 0; b < 4; b++) {
            check.due("anew: block", x.block(), b);
            check.due("anew: block " + b + " RETURNs variable 0", x.lives(b), 1);
            check.due("anew: block " + b + " needs nothing", x.needed(b), 0);
        }
        check.due("anew: MET", x.count(0), 1);
        check.due("anew: OPEN", x.count(1), 1);
        check.due("anew: edges", x.count(2), 0);
        check.due("anew: OPEN edges", x.count(3), 0);
        check.due("anew: nothing is set", x.value(0, 4, true), 0);
        check.due("anew: run", x.run(70, 0, 0), FlowSolver.RETURNED);
        check.last(x, "anew", 0, 1, 0);
        for (int b = 0; b < 4; b++) {
            check.due("anew: block " + b + " is empty", x.add(b, 0, 0, b, 0), 1);
        }
    }

    // Promises 6 and 17: clear takes blocks and parameters alone, and last tells of the latest run
    private static void clearLeavesTheLatestRun() {
        FlowSolver x = built();
        x.clear();
        check.last(x, "cleared", 33, 3, 3);
        x.block();
        check.last(x, "cleared, and a block", 33, 3, 3);
    }

    // Promise 16: "BAD (and nothing changes) if there are no blocks"
    private static void runWithoutBlocksChangesNothing() {
        FlowSolver x = new FlowSolver();
        check.due("no blocks: run", x.run(9, 9, 9), BAD);
        check.last(x, "no blocks", 0, 0, 0);
        FlowSolver y = built();
        y.clear();
        y.parameters(2);
        check.due("no blocks any more: run", y.run(9, 9, 9), BAD);
        check.last(y, "no blocks any more", 33, 3, 3);
        y.block();
        check.due("the parameters stay: 1", y.value(0, 1, false), FlowSolver.VARIES);
        check.due("the parameters stay: 2", y.value(0, 2, false), 0);
    }

    // Promise 5 says nothing of blocks: there may be parameters before there are any
    private static void parametersWithoutBlocks() {
        for (int k = 0; k <= 3; k++) {
            FlowSolver x = new FlowSolver();
            check.due("no blocks: parameters(" + k + ")", x.parameters(k), true);
            check.due("no blocks: parameters(4)", x.parameters(4), false);
            check.due("no blocks: parameters(-1)", x.parameters(-1), false);
            x.block();
            for (int v = 0; v < 6; v++) {
                long want = v < k ? FlowSolver.VARIES : 0;
                check.due(k + " parameters: variable " + v, x.value(0, v, false), want);
            }
        }
    }

    // Promise 2: "A further block, which RETURNs variable 0"
    private static void newBlock() {
        FlowSolver x = Check.blocks(2);
        x.parameters(1);
        check.due("a new block: run", x.run(41, 42, 43), FlowSolver.RETURNED);
        check.last(x, "a new block", 41, 1, 0);
        x.exit(0, 1, 0, 1, 0);
        check.due("a further block: run", x.run(41, 42, 43), FlowSolver.RETURNED);
        check.last(x, "a further block", 41, 2, 1);
        check.due("a further block is empty", x.add(1, 0, 0, 0, 0), 1);
        x.block();
        check.due("a block more changes no other", x.count(0), 2);
    }

    // Promise 13: "0 if there are none"; a block without instructions hands on what it is given
    private static void emptyBlocksAreGoneThrough() {
        FlowSolver x = Check.blocks(3);
        check.exits(x, new int[][] {{0, 1, 0, 1, 0}, {1, 1, 0, 2, 0}, {2, 0, 3, 0, 0}});
        x.add(0, 0, 3, 30, 0);
        check.due("an empty block: needed", x.needed(1), 0);
        check.due("behind an empty block: needed", x.needed(0), 1);
        check.due("an empty block: lives", x.lives(1), 8);
        check.due("an empty block: value", x.value(1, 3, true), 30);
        check.due("behind an empty block: value", x.value(2, 3, false), 30);
        x.run(0, 0, 0);
        check.last(x, "through an empty block", 30, 3, 2);
    }
}
