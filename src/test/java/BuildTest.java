/** Promises 1 to 6 and what promise 18 says of them: building a program. */
public final class BuildTest {
    private static final int LOW = Integer.MIN_VALUE;
    private static final int HIGH = Integer.MAX_VALUE;
    private static final Check check = new Check();

    public static void main(String[] args) {
        newObject();
        blocksAndFull();
        addAnswersHowMany();
        addRefusesWhatIsOutside();
        addTestsBadBeforeFull();
        refusedAddChangesNothing();
        exitTakesWhatItUses();
        exitRefusesWhatIsOutside();
        refusedExitChangesNothing();
        parametersAreNoughtToThree();
        clearTakesAllAway();
        check.end();
    }

    private static void newObject() {
        FlowSolver x = new FlowSolver();
        for (int what = 0; what < 4; what++) {
            check.due("new: count(" + what + ")", x.count(what), 0);
        }
        for (int what = -1; what < 4; what++) {
            check.due("new: last(" + what + ")", x.last(what), 0);
        }
        check.due("new: parent(0)", x.parent(0), -1);
        check.due("new: dominates(0, 0)", x.dominates(0, 0), false);
        check.due("new: frontier(0)", x.frontier(0), 0);
        check.due("new: merges(0)", x.merges(0), 0);
        check.due("new: depth(0)", x.depth(0), -1);
        check.due("new: lives(0)", x.lives(0), -1);
        check.due("new: needed(0)", x.needed(0), 0);
        check.due("new: value(0, 0, false)", x.value(0, 0, false), FlowSolver.NOWHERE);
        check.due("new: value(0, 0, true)", x.value(0, 0, true), FlowSolver.NOWHERE);
        check.due("new: run", x.run(1, 2, 3), FlowSolver.BAD);
        check.due("new: add", x.add(0, 0, 0, 0, 0), FlowSolver.BAD);
        check.due("new: exit", x.exit(0, 0, 0, 0, 0), false);
        check.due("new: clear", x.clear(), 0);
        x.block();
        check.due("new: no parameter 0", x.value(0, 0, false), 0);
        x.run(5, 6, 7);
        check.due("new: parameter 0 is not given", x.last(0), 0);
    }

    private static void blocksAndFull() {
        FlowSolver x = new FlowSolver();
        for (int b = 0; b < 16; b++) {
            check.due("block number", x.block(), b);
        }
        check.due("block 17", x.block(), FlowSolver.FULL);
        check.due("block 17 again", x.block(), FlowSolver.FULL);
        check.due("block 16 is not there", x.depth(16), -1);
        check.due("block 15 is there", x.depth(15), 0);
        x.parameters(1);
        check.due("a new block returns", x.run(77, 0, 0), FlowSolver.RETURNED);
        check.due("a new block returns variable 0", x.last(0), 77);
        check.due("a new block uses variable 0", x.lives(15), 1);
        check.due("a new block has no edge", x.count(2), 0);
        check.due("clear after a refused block", x.clear(), 16);
    }

    private static void addAnswersHowMany() {
        FlowSolver x = Check.blocks(2);
        for (int n = 1; n <= 4; n++) {
            check.due("add " + n + " to block 1", x.add(1, 0, n, n, 0), n);
        }
        check.due("add 5 to block 1", x.add(1, 0, 5, 5, 0), FlowSolver.FULL);
        check.due("block 0 has its own", x.add(0, 0, 1, 1, 0), 1);
        // behind those that are there
        check.adds(x, new int[][] {{0, 2, 1, 1, 1}, {0, 4, 1, 1, 1}});
        x.exit(0, 0, 1, 0, 0);
        x.run(0, 0, 0);
        check.due("(1 + 1) * (1 + 1)", x.last(0), 4);
        check.due("how many block 0 has", x.add(0, 1, 1, 1, 0), 4);
        check.due("block 0 is full", x.add(0, 1, 1, 1, 0), FlowSolver.FULL);
        x.run(0, 0, 0);
        check.due("a full block is not changed", x.last(0), 4);
    }

    private static void addRefusesWhatIsOutside() {
        FlowSolver x = Check.blocks(2);
        int[] notBlocks = {-1, 2, 15, 16, LOW, HIGH};
        for (int b : notBlocks) {
            check.due("add to block " + b, x.add(b, 0, 0, 0, 0), FlowSolver.BAD);
        }
        int[] notOps = {-1, 8, LOW, HIGH};
        for (int op : notOps) {
            check.due("add op " + op, x.add(0, op, 0, 0, 0), FlowSolver.BAD);
        }
        int[] notVariables = {-1, 6, LOW, HIGH};
        for (int v : notVariables) {
            for (int op = 0; op < 8; op++) {
                check.due("op " + op + " d " + v, x.add(0, op, v, 0, 0), FlowSolver.BAD);
            }
            for (int op = 0; op < 8; op++) {
                FlowSolver y = Check.blocks(1);
                boolean usesA = op >= 1 && op <= 6;
                boolean usesB = op >= 2 && op <= 6;
                check.due("op " + op + " a " + v, y.add(0, op, 5, v, 5), usesA ? -1 : 1);
                FlowSolver z = Check.blocks(1);
                check.due("op " + op + " b " + v, z.add(0, op, 5, 5, v), usesB ? -1 : 1);
            }
        }
        check.due("nothing was added", x.add(0, 7, 5, 0, 0), 1);
    }

    private static void addTestsBadBeforeFull() {
        FlowSolver x = Check.blocks(1);
        for (int n = 1; n <= 4; n++) {
            x.add(0, 0, 0, n, 0);
        }
        check.due("full, block", x.add(1, 0, 0, 0, 0), FlowSolver.BAD);
        check.due("full, op", x.add(0, 8, 0, 0, 0), FlowSolver.BAD);
        check.due("full, d", x.add(0, 0, 6, 0, 0), FlowSolver.BAD);
        check.due("full, a", x.add(0, 1, 0, 6, 0), FlowSolver.BAD);
        check.due("full, b", x.add(0, 2, 0, 0, -1), FlowSolver.BAD);
        check.due("full", x.add(0, 2, 0, 0, 0), FlowSolver.FULL);
    }

    private static void refusedAddChangesNothing() {
        FlowSolver x = Check.blocks(1);
        x.add(0, 0, 0, 3, 0);
        x.add(0, 8, 0, 1, 1);
        x.add(0, 2, 0, 0, 6);
        x.add(0, 0, 6, 9, 0);
        check.due("value after refused adds", x.value(0, 0, true), 3);
        check.due("how many after refused adds", x.add(0, 1, 0, 0, 0), 2);
    }

    private static void exitTakesWhatItUses() {
        FlowSolver x = Check.blocks(3);
        check.due("RETURN, the rest is free", x.exit(0, 0, 5, LOW, HIGH), true);
        check.due("GO, the rest is free", x.exit(0, 1, LOW, 2, HIGH), true);
        check.due("GO leads on", x.count(0), 2);
        check.due("GO has one edge", x.count(2), 1);
        check.due("GO to itself", x.exit(2, 1, 9, 2, 9), true);
        check.due("BRANCH", x.exit(0, 2, 5, 1, 2), true);
        check.due("BRANCH leads on", x.count(0), 3);
        check.due("BRANCH, both to one", x.exit(0, 2, 0, 2, 2), true);
        check.due("both to one: met", x.count(0), 2);
        check.due("both to one: two edges and a loop", x.count(2), 3);
        check.due("RETURN again", x.exit(0, 0, 1, 0, 0), true);
        check.due("RETURN leads nowhere", x.count(0), 1);
    }

    private static void exitRefusesWhatIsOutside() {
        FlowSolver x = Check.blocks(3);
        int[] notBlocks = {-1, 3, 16, LOW, HIGH};
        for (int b : notBlocks) {
            check.due("exit of " + b, x.exit(b, 0, 0, 0, 0), false);
            check.due("GO to " + b, x.exit(1, 1, 0, b, 1), false);
            check.due("BRANCH to " + b + " or 1", x.exit(1, 2, 0, b, 1), false);
            check.due("BRANCH to 1 or " + b, x.exit(1, 2, 0, 1, b), false);
        }
        check.due("GO to 0", x.exit(1, 1, 0, 0, 1), false);
        check.due("BRANCH to 0 or 1", x.exit(1, 2, 0, 0, 1), false);
        check.due("BRANCH to 1 or 0", x.exit(1, 2, 0, 1, 0), false);
        int[] notKinds = {-1, 3, LOW, HIGH};
        for (int kind : notKinds) {
            check.due("kind " + kind, x.exit(1, kind, 0, 1, 1), false);
        }
        int[] notVariables = {-1, 6, LOW, HIGH};
        for (int v : notVariables) {
            check.due("RETURN " + v, x.exit(1, 0, v, 1, 1), false);
            check.due("BRANCH on " + v, x.exit(1, 2, v, 1, 1), false);
            check.due("GO does not use " + v, x.exit(2, 1, v, 1, 1), true);
        }
        check.due("block 3 is not there yet", x.exit(1, 1, 0, 3, 0), false);
        x.block();
        check.due("block 3 is there", x.exit(1, 1, 0, 3, 0), true);
    }

    private static void refusedExitChangesNothing() {
        FlowSolver x = Check.blocks(3);
        x.add(1, 0, 4, 44, 0);
        x.exit(0, 1, 0, 1, 0);
        x.exit(1, 0, 4, 0, 0);
        x.exit(1, 1, 0, 0, 0);
        x.exit(1, 2, 0, 2, 3);
        x.exit(1, 0, 6, 2, 2);
        x.exit(1, 3, 0, 2, 2);
        x.exit(0, 2, 6, 2, 2);
        check.due("run after refused exits", x.run(0, 0, 0), FlowSolver.RETURNED);
        check.due("RETURNED after refused exits", x.last(0), 44);
        check.due("edges after refused exits", x.count(2), 1);
    }

    private static void parametersAreNoughtToThree() {
        FlowSolver x = Check.blocks(1);
        int[] outside = {-1, 4, LOW, HIGH};
        for (int k = 0; k <= 3; k++) {
            check.due("parameters(" + k + ")", x.parameters(k), true);
            for (int no : outside) {
                check.due("parameters(" + no + ")", x.parameters(no), false);
            }
            for (int v = 0; v < 6; v++) {
                long want = v < k ? FlowSolver.VARIES : 0;
                check.due(k + " parameters, variable " + v, x.value(0, v, false), want);
                x.exit(0, 0, v, 0, 0);
                x.run(11, 12, 13);
                check.due(k + " parameters, run, variable " + v, x.last(0), v < k ? 11 + v : 0);
            }
        }
        check.due("fewer again", x.parameters(1), true);
        check.due("fewer again: 1", x.value(0, 1, false), 0);
    }

    private static void clearTakesAllAway() {
        FlowSolver x = Check.blocks(3);
        x.parameters(2);
        check.adds(x, new int[][] {{0, 0, 0, 5, 0}, {0, 0, 1, 6, 0}, {1, 0, 2, 7, 0}});
        check.exits(x, new int[][] {{0, 2, 0, 1, 2}, {1, 1, 0, 2, 0}, {2, 0, 2, 0, 0}});
        x.run(1, 2, 3);
        check.due("before clear: last(0)", x.last(0), 7);
        check.due("before clear: count(1)", x.count(1), 3);
        check.due("before clear: count(3)", x.count(3), 2);
        check.due("clear", x.clear(), 3);
        check.due("clear again", x.clear(), 0);
        for (int what = 0; what < 4; what++) {
            check.due("cleared: count(" + what + ")", x.count(what), 0);
        }
        check.due("cleared: lives", x.lives(0), -1);
        check.due("cleared: value", x.value(0, 0, true), FlowSolver.NOWHERE);
        check.due("cleared: run", x.run(0, 0, 0), FlowSolver.BAD);
        check.due("the latest run stays: last(0)", x.last(0), 7);
        check.due("the latest run stays: last(1)", x.last(1), 3);
        check.due("the latest run stays: last(2)", x.last(2), 2);
        check.due("numbers begin anew", x.block(), 0);
        check.due("and go on", x.block(), 1);
        check.due("no parameters", x.value(0, 0, false), 0);
        check.due("no instruction of before", x.value(0, 1, true), 0);
        check.due("no exit of before", x.count(0), 1);
        check.due("block 2 is not there", x.exit(0, 1, 0, 2, 0), false);
        check.due("an empty block", x.add(0, 0, 0, 8, 0), 1);
        x.run(1, 2, 3);
        check.due("returns variable 0", x.last(0), 8);
    }
}
