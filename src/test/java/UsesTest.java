/** Promises 12 and 13 and what promise 18 says of them: what lives, and what is needed. */
public final class UsesTest {
    private static final Check check = new Check();

    public static void main(String[] args) {
        usesOfEachOp();
        usesOfEachExit();
        setBeforeUsed();
        livesAlongEdges();
        livesInBlocksThatAreNotMet();
        neededDirectly();
        neededThroughOthers();
        notNeededThoughUsed();
        neededAroundALoop();
        neededOnlyWhereMet();
        check.end();
    }

    private static void lives(FlowSolver x, String name, int... want) {
        for (int b = 0; b < want.length; b++) {
            check.due(name + ": lives(" + b + ")", x.lives(b), want[b]);
        }
    }

    private static void needed(FlowSolver x, String name, int... want) {
        for (int b = 0; b < want.length; b++) {
            check.due(name + ": needed(" + b + ")", x.needed(b), want[b]);
        }
    }

    private static void usesOfEachOp() {
        for (int op = 0; op < 8; op++) {
            FlowSolver x = Check.blocks(1);
            x.add(0, op, 5, 2, 3);
            x.exit(0, 0, 5, 0, 0);
            int want = op == 0 || op == 7 ? 0 : op == 1 ? 4 : 12;
            check.due("op " + op + " uses", x.lives(0), want);
        }
    }

    private static void usesOfEachExit() {
        FlowSolver x = Check.blocks(3);
        check.adds(x, new int[][] {{1, 0, 0, 0, 0}, {2, 0, 0, 0, 0}});
        x.exit(0, 0, 4, 1, 2);
        check.due("RETURN uses", x.lives(0), 16);
        x.exit(0, 1, 4, 1, 2);
        check.due("GO uses nothing", x.lives(0), 0);
        x.exit(0, 2, 4, 1, 2);
        check.due("BRANCH uses", x.lives(0), 16);
        x.exit(0, 2, 4, 1, 1);
        check.due("BRANCH uses, also if t is e", x.lives(0), 16);
    }

    private static void setBeforeUsed() {
        FlowSolver x = Check.blocks(1);
        x.exit(0, 0, 1, 0, 0);
        check.due("used by the exit", x.lives(0), 2);
        x.add(0, 2, 1, 1, 2);
        check.due("used and set by one instruction", x.lives(0), 6);
        x.add(0, 0, 1, 3, 0);
        check.due("set again before the exit", x.lives(0), 6);
        check.due("the first is not needed any more", x.needed(0), 2);
        FlowSolver y = Check.blocks(1);
        check.adds(y, new int[][] {{0, 0, 1, 3, 0}, {0, 2, 1, 1, 2}});
        y.exit(0, 0, 1, 0, 0);
        check.due("set before it is used", y.lives(0), 4);
        check.due("both needed", y.needed(0), 3);
    }

    private static void livesAlongEdges() {
        // 0 -> 1 or 2, 1 -> 3, 2 -> 3, 3 returns 5; 1 sets 5, 2 uses 4 to set 5
        FlowSolver x = Check.blocks(4);
        check.exits(x, new int[][] {{0, 2, 0, 1, 2}, {1, 1, 0, 3, 0}, {2, 1, 0, 3, 0}, {3, 0, 5, 0, 0}});
        lives(x, "before", 33, 32, 32, 32);
        check.adds(x, new int[][] {{1, 0, 5, 1, 0}, {2, 1, 5, 4, 0}});
        lives(x, "after", 17, 0, 16, 32);
        x.add(0, 7, 4, 0, 0);
        lives(x, "set in 0", 1, 0, 16, 32);
        // a long way, with ways back
        FlowSolver y = Check.blocks(16);
        y.exit(0, 1, 0, 1, 0);
        for (int b = 1; b < 15; b++) {
            y.exit(b, 2, b % 2, b + 1, 1);
        }
        y.exit(15, 0, 5, 0, 0);
        check.due("a long way", y.lives(0), 35);
        FlowSolver z = Check.blocks(16);
        z.exit(0, 1, 0, 15, 0);
        for (int b = 15; b > 1; b--) {
            z.exit(b, 1, 0, b - 1, 0);
        }
        z.exit(1, 0, 4, 0, 0);
        z.add(0, 0, 4, 1, 0);
        check.due("a long way against the numbers", z.lives(15), 16);
        check.due("set before that way", z.lives(0), 0);
        check.due("needed at its end", z.needed(0), 1);
    }

    private static void livesInBlocksThatAreNotMet() {
        FlowSolver x = Check.blocks(3);
        check.exits(x, new int[][] {{1, 1, 0, 2, 0}, {2, 2, 3, 1, 2}});
        x.add(1, 0, 3, 0, 0);
        lives(x, "not met", 1, 0, 8);
        needed(x, "not met", 0, 0, 0);
    }

    private static void neededDirectly() {
        FlowSolver x = Check.blocks(2);
        check.adds(x, new int[][] {{0, 0, 1, 1, 0}, {0, 0, 2, 2, 0}, {0, 0, 3, 3, 0}, {0, 0, 4, 4, 0}});
        x.exit(0, 2, 2, 1, 1);
        x.exit(1, 0, 4, 0, 0);
        needed(x, "a BRANCH (both edges to one) and a RETURN", 10, 0);
        x.exit(0, 1, 2, 1, 1);
        needed(x, "a GO uses nothing", 8, 0);
        x.exit(0, 0, 1, 0, 0);
        needed(x, "a RETURN in the same block", 1, 0);
        x.exit(0, 0, 5, 0, 0);
        needed(x, "none", 0, 0);
    }

    private static void neededThroughOthers() {
        FlowSolver x = Check.blocks(2);
        check.adds(x, new int[][] {
            {0, 7, 1, 0, 0}, {0, 1, 2, 1, 0}, {0, 7, 3, 0, 0}, {0, 2, 4, 3, 3}, {1, 3, 5, 2, 0}});
        x.exit(0, 1, 0, 1, 0);
        x.exit(1, 0, 5, 0, 0);
        needed(x, "a row of uses", 3, 1);
        x.add(1, 4, 5, 4, 4);
        needed(x, "set anew", 12, 2);
    }

    private static void notNeededThoughUsed() {
        // 2 = 1 and 3 = 2 are used, but only by what is not needed
        FlowSolver x = Check.blocks(1);
        check.adds(x, new int[][] {{0, 0, 1, 1, 0}, {0, 1, 2, 1, 0}, {0, 1, 3, 2, 0}});
        x.exit(0, 0, 0, 0, 0);
        needed(x, "used in vain", 0);
        check.due("what is used in vain lives all the same", x.lives(0), 1);
        FlowSolver y = Check.blocks(1);
        y.add(0, 1, 3, 2, 0);
        check.due("uses of instructions that are not needed count for lives", y.lives(0), 5);
    }

    private static void neededAroundALoop() {
        // 1 counts variable 1 round and round, and nothing else asks for it
        FlowSolver x = Check.blocks(3);
        check.exits(x, new int[][] {{0, 1, 0, 1, 0}, {1, 2, 0, 1, 2}, {2, 0, 3, 0, 0}});
        check.adds(x, new int[][] {{0, 0, 1, 1, 0}, {1, 2, 1, 1, 1}, {1, 1, 4, 5, 0}, {1, 1, 5, 3, 0}});
        needed(x, "only for itself", 0, 0, 0);
        lives(x, "only for itself", 41, 43, 8);
        // 3 takes 4, which takes 5, which took 3, each from the round before
        x.add(1, 1, 3, 4, 0);
        needed(x, "round the loop", 0, 14, 0);
        lives(x, "round the loop", 41, 43, 8);
    }

    private static void neededOnlyWhereMet() {
        FlowSolver x = Check.blocks(3);
        check.adds(x, new int[][] {{0, 0, 1, 1, 0}, {1, 0, 1, 2, 0}, {2, 0, 1, 2, 0}});
        check.exits(x, new int[][] {{0, 0, 1, 0, 0}, {1, 1, 0, 2, 0}, {2, 0, 1, 0, 0}});
        needed(x, "not met", 1, 0, 0);
        x.exit(0, 1, 0, 2, 0);
        needed(x, "2 is met", 0, 0, 1);
        x.exit(0, 1, 0, 1, 0);
        needed(x, "both are met", 0, 0, 1);
    }
}
