/** The boundary cases that the terms and promise 18 name, a test for each sentence. */
public final class TermsTest {
    private static final long NOWHERE = FlowSolver.NOWHERE;
    private static final long VARIES = FlowSolver.VARIES;
    private static final Check check = new Check();

    public static void main(String[] args) {
        parametersVaryOthersAreNought();
        parametersAsFarAsThereAre();
        inputsHoweverManyParameters();
        inputsAsTheyAreGiven();
        inputsAreCountedFromNoughtInEachRun();
        noExitLeadsToBlockNought();
        branchHasTwoEdgesAlsoIfTIsE();
        branchOnAConstantOpensOneEdgeAlsoIfTIsE();
        goHasOneEdgeReturnNone();
        edgesOfBlocksThatAreNotMet();
        blockNoughtIsMet();
        metBlocksDominateThemselves();
        blocksThatAreNotMetDominateNothing();
        parentIsNotItself();
        frontierOfABlockThatIsInIt();
        frontierOfABlockThatIsNotMet();
        mergesOfSettersThatAreNotMet();
        mergesOfBlockNought();
        loopOfOneBlock();
        oneLoopForEachHead();
        depthOfABlockThatIsNotMet();
        whatABlockUsesLivesThere();
        livesMetOrNot();
        livesNotIfSetBefore();
        neededIsTheLeastSet();
        neededOfABlockThatIsNotMet();
        valuesOfABlockThatIsNotOpen();
        timesTheConstantNought();
        noOtherOpLooksPastWhatVaries();
        sameConstantOrVaries();
        closedEdgesHandOnNothing();
        check.end();
    }

    // "variables 0..k - 1 are PARAMETERS (k 0..3), the others begin with 0"
    private static void parametersVaryOthersAreNought() {
        FlowSolver x = Check.blocks(1);
        for (int k : new int[] {3, 2, 1, 0, 3}) {
            check.due("parameters(" + k + ")", x.parameters(k), true);
            for (int v = 0; v < 6; v++) {
                long want = v < k ? VARIES : 0;
                check.due(k + " parameters: value(0, " + v + ", false)", x.value(0, v, false), want);
                check.due(k + " parameters: value(0, " + v + ", true)", x.value(0, v, true), want);
            }
        }
    }

    // Promise 16: "with parameters a, b, c (as far as there are)"
    private static void parametersAsFarAsThereAre() {
        FlowSolver x = Check.blocks(1);
        for (int k : new int[] {3, 2, 1, 0, 3}) {
            x.parameters(k);
            for (int v = 0; v < 6; v++) {
                x.exit(0, 0, v, 0, 0);
                x.run(11, 12, 13);
                check.due(k + " parameters: run, variable " + v, x.last(0), v < k ? 11 + v : 0);
            }
        }
    }

    /** RETURNs the second INPUT; the first parameters are set to 0 before. */
    private static FlowSolver secondInput() {
        FlowSolver x = Check.blocks(1);
        check.adds(x, new int[][] {{0, 0, 0, 0, 0}, {0, 0, 1, 0, 0}, {0, 7, 5, 0, 0}, {0, 7, 5, 0, 0}});
        x.exit(0, 0, 5, 0, 0);
        return x;
    }

    // Promise 18: "however many PARAMETERS there are"
    private static void inputsHoweverManyParameters() {
        FlowSolver x = secondInput();
        for (int k = 0; k <= 3; k++) {
            x.parameters(k);
            x.run(-3, 8, 1000);
            check.due("INPUT 1 with " + k + " parameters", x.last(0), 5);
        }
    }

    // Promise 18: "of the ints a and b as they are given": not of what variables 0 and 1 are now
    private static void inputsAsTheyAreGiven() {
        FlowSolver x = Check.blocks(1);
        x.parameters(3);
        check.adds(x, new int[][] {{0, 0, 0, 900, 0}, {0, 7, 0, 0, 0}, {0, 0, 1, 900, 0}, {0, 7, 0, 0, 0}});
        x.run(20, 3, 0);
        check.due("INPUT 1 of 20, 3", x.last(0), 23);
    }

    // Promise 16: "the n-th INPUT (n 0, 1, ..)"
    private static void inputsAreCountedFromNoughtInEachRun() {
        FlowSolver x = Check.blocks(2);
        check.adds(x, new int[][] {{0, 7, 1, 0, 0}, {0, 7, 2, 0, 0}, {1, 7, 3, 0, 0}, {1, 7, 4, 0, 0}});
        x.exit(0, 1, 0, 1, 0);
        for (int n = 0; n < 4; n++) {
            x.exit(1, 0, n + 1, 0, 0);
            for (int run = 0; run < 3; run++) {
                x.run(100 + run, 7, 0);
                check.due("INPUT " + n + " in run " + run, x.last(0), 100 + run + n * 7);
            }
        }
    }

    // "No exit leads to block 0": the same exits to another block are taken
    private static void noExitLeadsToBlockNought() {
        FlowSolver x = Check.blocks(2);
        for (int b = 0; b < 2; b++) {
            check.due("GO from " + b + " to 0", x.exit(b, 1, 0, 0, 0), false);
            check.due("GO from " + b + " to 1", x.exit(b, 1, 0, 1, 0), true);
            check.due("BRANCH from " + b + " to 0 or 1", x.exit(b, 2, 0, 0, 1), false);
            check.due("BRANCH from " + b + " to 1 or 0", x.exit(b, 2, 0, 1, 0), false);
            check.due("BRANCH from " + b + " to 1 or 1", x.exit(b, 2, 0, 1, 1), true);
        }
        FlowSolver y = Check.blocks(1);
        check.due("no way from a single block: GO", y.exit(0, 1, 0, 0, 0), false);
        check.due("no way from a single block: BRANCH", y.exit(0, 2, 0, 0, 0), false);
    }

    // "A BRANCH has two EDGES, also if t is e"
    private static void branchHasTwoEdgesAlsoIfTIsE() {
        FlowSolver x = Check.blocks(3);
        x.parameters(1);
        x.exit(0, 2, 0, 1, 2);
        check.counts(x, "t is not e", 3, 3, 2, 2);
        x.exit(0, 2, 0, 1, 1);
        check.counts(x, "t is e", 2, 2, 2, 2);
        x.exit(1, 2, 0, 1, 1);
        check.counts(x, "t is e, twice", 2, 2, 4, 4);
        check.due("t is e: merges", x.merges(1), 0);
        check.due("t is e: parent", x.parent(1), 0);
        check.due("t is e: depth", x.depth(1), 1);
        check.due("t is e: lives", x.lives(0), 1);
    }

    // "or is a constant that leads to this edge": the other edge to the same block stays closed
    private static void branchOnAConstantOpensOneEdgeAlsoIfTIsE() {
        FlowSolver x = Check.blocks(2);
        x.exit(0, 2, 0, 1, 1);
        check.counts(x, "the constant 0", 2, 2, 2, 1);
        x.add(0, 0, 0, 5, 0);
        check.counts(x, "the constant 5", 2, 2, 2, 1);
        x.add(0, 7, 0, 0, 0);
        check.counts(x, "INPUT", 2, 2, 2, 2);
    }

    // "a GO has one"
    private static void goHasOneEdgeReturnNone() {
        FlowSolver x = Check.blocks(2);
        check.counts(x, "RETURN", 1, 1, 0, 0);
        x.exit(0, 1, 0, 1, 1);
        check.counts(x, "GO", 2, 2, 1, 1);
        x.exit(1, 1, 0, 1, 1);
        check.counts(x, "GO and GO", 2, 2, 2, 2);
        x.exit(0, 0, 0, 1, 1);
        check.counts(x, "RETURN again", 1, 1, 0, 0);
    }

    // Promise 15: "how many edges of MET blocks there are"
    private static void edgesOfBlocksThatAreNotMet() {
        FlowSolver x = Check.blocks(3);
        x.parameters(1);
        check.exits(x, new int[][] {{1, 2, 0, 1, 2}, {2, 1, 0, 1, 0}});
        check.counts(x, "not MET", 1, 1, 0, 0);
        x.exit(0, 1, 0, 2, 0);
        check.counts(x, "MET", 3, 3, 4, 4);
    }

    // Promise 18: "A row of edges may have no edge: block 0 is MET"
    private static void blockNoughtIsMet() {
        for (int n = 1; n <= 16; n++) {
            FlowSolver x = Check.blocks(n);
            check.counts(x, n + " blocks, no edge", 1, 1, 0, 0);
            check.due(n + " blocks, no edge: dominates(0, 0)", x.dominates(0, 0), true);
            check.due(n + " blocks, no edge: value(0, 0, false)", x.value(0, 0, false), 0);
            check.due(n + " blocks, no edge: the last is MET", x.dominates(n - 1, n - 1), n == 1);
        }
    }

    // Promise 18: "each MET block dominates itself"
    private static void metBlocksDominateThemselves() {
        FlowSolver x = Check.blocks(16);
        for (int b = 0; b < 15; b++) {
            x.exit(b, 2, 0, b + 1, Math.max(1, b - 2));
            check.due("just MET: dominates(" + (b + 1) + ", itself)", x.dominates(b + 1, b + 1), true);
        }
        for (int b = 0; b < 16; b++) {
            check.due("all MET: dominates(" + b + ", itself)", x.dominates(b, b), true);
            check.due("all MET: dominates(0, " + b + ")", x.dominates(0, b), true);
        }
    }

    // "Block a DOMINATES block b (both MET)"
    private static void blocksThatAreNotMetDominateNothing() {
        // 1 and 2 lead to each other and 1 leads to 3, but only 3 is come to
        FlowSolver x = Check.blocks(4);
        check.exits(x, new int[][] {{0, 1, 0, 3, 0}, {1, 2, 0, 2, 3}, {2, 1, 0, 1, 0}});
        for (int a = 1; a <= 2; a++) {
            for (int b = 0; b < 4; b++) {
                check.due("dominates(" + a + ", " + b + ")", x.dominates(a, b), false);
                check.due("dominates(" + b + ", " + a + ")", x.dominates(b, a), false);
            }
            check.due("parent(" + a + ")", x.parent(a), -1);
        }
        check.due("parent(3)", x.parent(3), 0);
    }

    // "the block, not itself"; promise 7: "-1 if it has none"
    private static void parentIsNotItself() {
        FlowSolver x = Check.blocks(3);
        check.due("a single MET block: parent(0)", x.parent(0), -1);
        check.exits(x, new int[][] {{0, 1, 0, 1, 0}, {1, 2, 0, 1, 2}, {2, 1, 0, 1, 0}});
        check.due("block 0 has none", x.parent(0), -1);
        check.due("a block with a way back to itself", x.parent(1), 0);
        check.due("a block behind it", x.parent(2), 1);
    }

    // "but does not dominate b, or is b"
    private static void frontierOfABlockThatIsInIt() {
        FlowSolver x = Check.blocks(4);
        check.exits(x, new int[][] {{0, 1, 0, 1, 0}, {1, 1, 0, 2, 0}, {2, 2, 0, 1, 3}});
        int[] want = {0, 2, 2, 0};
        for (int b = 0; b < 4; b++) {
            check.due("frontier(" + b + ")", x.frontier(b), want[b]);
        }
        x.exit(3, 2, 0, 3, 3);
        check.due("frontier of a block that leads to itself alone", x.frontier(3), 8);
    }

    // Promise 9: "0 if it is not MET"
    private static void frontierOfABlockThatIsNotMet() {
        FlowSolver x = Check.blocks(4);
        check.exits(x, new int[][] {{0, 1, 0, 3, 0}, {1, 2, 0, 1, 3}, {2, 1, 0, 3, 0}});
        check.due("not MET, leads to itself: frontier(1)", x.frontier(1), 0);
        check.due("not MET, leads to 3: frontier(2)", x.frontier(2), 0);
        x.exit(0, 2, 0, 2, 3);
        check.due("MET: frontier(2)", x.frontier(2), 8);
    }

    // "of all MET blocks with an instruction that sets it"
    private static void mergesOfSettersThatAreNotMet() {
        FlowSolver x = Check.blocks(4);
        check.adds(x, new int[][] {{1, 0, 2, 1, 0}, {2, 0, 3, 1, 0}});
        check.exits(x, new int[][] {{0, 2, 0, 1, 3}, {1, 1, 0, 3, 0}, {2, 2, 0, 2, 3}});
        check.due("a setter that is MET", x.merges(3), 4);
        check.due("a block that is not MET", x.merges(2), 0);
        x.exit(0, 2, 0, 2, 3);
        check.due("the other setter is MET", x.merges(3), 8);
        check.due("the other setter is MET: itself", x.merges(2), 8);
        check.due("and the one is no more", x.merges(1), 0);
    }

    // "the frontiers of block 0": it has none, for no exit leads to it
    private static void mergesOfBlockNought() {
        FlowSolver x = Check.blocks(2);
        x.parameters(3);
        for (int v = 0; v < 4; v++) {
            x.add(0, 0, v, v, 0);
        }
        check.exits(x, new int[][] {{0, 2, 0, 1, 1}, {1, 2, 0, 1, 1}});
        check.due("frontier(0)", x.frontier(0), 0);
        check.due("merges(0)", x.merges(0), 0);
        check.due("what block 0 alone sets: merges(1)", x.merges(1), 0);
        x.add(1, 1, 3, 3, 0);
        check.due("what block 1 sets: merges(1)", x.merges(1), 8);
    }

    // "those blocks, the head": here the same one
    private static void loopOfOneBlock() {
        FlowSolver x = Check.blocks(3);
        check.exits(x, new int[][] {{0, 1, 0, 1, 0}, {1, 2, 0, 1, 2}});
        int[] want = {0, 1, 0};
        for (int b = 0; b < 3; b++) {
            check.due("one block: depth(" + b + ")", x.depth(b), want[b]);
        }
        x.exit(1, 2, 0, 1, 1);
        check.due("one block, both edges: depth(1)", x.depth(1), 1);
    }

    // "There is one for each head"
    private static void oneLoopForEachHead() {
        FlowSolver x = Check.blocks(4);
        check.exits(x, new int[][] {{0, 1, 0, 1, 0}, {1, 2, 0, 2, 3}, {2, 2, 0, 1, 1}, {3, 2, 0, 1, 3}});
        int[] want = {0, 1, 1, 2};
        for (int b = 0; b < 4; b++) {
            check.due("three edges back to 1: depth(" + b + ")", x.depth(b), want[b]);
        }
    }

    // Promise 11: "(0 if it is not MET)"
    private static void depthOfABlockThatIsNotMet() {
        // 0 -> 3 -> 4 -> 3; 1 leads to itself, 2 and 5 lead to the head and past it into the loop
        FlowSolver x = Check.blocks(6);
        check.exits(x, new int[][] {
            {0, 1, 0, 3, 0}, {1, 1, 0, 1, 0}, {2, 1, 0, 3, 0}, {3, 1, 0, 4, 0}, {4, 1, 0, 3, 0}, {5, 1, 0, 4, 0}});
        int[] want = {0, 0, 0, 1, 1, 0};
        for (int b = 0; b < 6; b++) {
            check.due("beside blocks that are not MET: depth(" + b + ")", x.depth(b), want[b]);
        }
    }

    // Promise 18: "what a block itself uses counts for what LIVES at its beginning"
    private static void whatABlockUsesLivesThere() {
        FlowSolver x = Check.blocks(2);
        x.exit(0, 0, 3, 0, 0);
        check.due("its exit", x.lives(0), 8);
        x.add(0, 2, 5, 1, 2);
        check.due("its instruction and its exit", x.lives(0), 14);
        x.exit(0, 2, 4, 1, 1);
        x.add(1, 0, 0, 0, 0);
        check.due("its BRANCH", x.lives(0), 22);
    }

    // "at the beginning of a block (MET or not)"
    private static void livesMetOrNot() {
        FlowSolver x = Check.blocks(3);
        check.exits(x, new int[][] {{1, 1, 0, 2, 0}, {2, 0, 4, 0, 0}});
        check.due("not MET, along an edge", x.lives(1), 16);
        check.due("not MET", x.lives(2), 16);
        check.due("MET", x.lives(0), 1);
    }

    // "no instruction before which sets it"
    private static void livesNotIfSetBefore() {
        FlowSolver x = Check.blocks(2);
        check.adds(x, new int[][] {{0, 2, 1, 1, 1}, {1, 0, 2, 5, 0}, {1, 1, 3, 2, 0}});
        check.exits(x, new int[][] {{0, 1, 0, 1, 0}, {1, 0, 3, 0, 0}});
        check.due("one instruction that uses and sets it", x.lives(0), 2);
        check.due("set, then used", x.lives(1), 0);
    }

    // "(the least set of these)"
    private static void neededIsTheLeastSet() {
        FlowSolver x = Check.blocks(3);
        check.adds(x, new int[][] {{0, 0, 1, 1, 0}, {1, 2, 1, 1, 1}, {1, 1, 2, 3, 0}, {1, 1, 3, 2, 0}});
        check.exits(x, new int[][] {{0, 1, 0, 1, 0}, {1, 2, 0, 1, 2}});
        check.due("uses only itself, and each other", x.needed(1), 0);
        check.due("is used only by what is not needed", x.needed(0), 0);
        x.exit(2, 0, 1, 0, 0);
        check.due("is RETURNED", x.needed(1), 1);
        check.due("is used by what is needed", x.needed(0), 1);
        x.exit(2, 0, 3, 0, 0);
        check.due("each needs the other", x.needed(1), 6);
    }

    // "An instruction of a MET block is NEEDED"
    private static void neededOfABlockThatIsNotMet() {
        FlowSolver x = Check.blocks(2);
        check.adds(x, new int[][] {{0, 0, 1, 1, 0}, {1, 0, 1, 2, 0}});
        check.exits(x, new int[][] {{0, 0, 1, 0, 0}, {1, 0, 1, 0, 0}});
        check.due("MET", x.needed(0), 1);
        check.due("not MET", x.needed(1), 0);
        x.exit(0, 1, 0, 1, 0);
        check.due("set anew behind", x.needed(0), 0);
        check.due("MET now", x.needed(1), 1);
    }

    // Promise 14: "NOWHERE", at both ends of a block that no OPEN edge leads to
    private static void valuesOfABlockThatIsNotOpen() {
        // 1 is MET but not OPEN, 3 not even MET
        FlowSolver x = Check.blocks(4);
        check.adds(x, new int[][] {{1, 0, 4, 4, 0}, {1, 7, 5, 0, 0}, {3, 0, 4, 4, 0}, {3, 7, 5, 0, 0}});
        check.exits(x, new int[][] {{0, 2, 0, 1, 2}, {1, 1, 0, 2, 0}, {3, 1, 0, 2, 0}});
        for (int v = 0; v < 6; v++) {
            for (int b = 1; b <= 3; b += 2) {
                check.due("value(" + b + ", " + v + ", false)", x.value(b, v, false), NOWHERE);
                check.due("value(" + b + ", " + v + ", true)", x.value(b, v, true), NOWHERE);
            }
            check.due("value(2, " + v + ", false)", x.value(2, v, false), 0);
        }
        check.counts(x, "one is closed, one not MET", 3, 2, 3, 1);
    }

    // "4 is 0 if one of its variables is the constant 0", though the other VARIES
    private static void timesTheConstantNought() {
        FlowSolver x = Check.blocks(1);
        x.parameters(1);
        check.adds(x, new int[][] {{0, 4, 2, 0, 5}, {0, 4, 3, 5, 0}, {0, 4, 4, 0, 0}, {0, 4, 1, 5, 5}});
        check.due("what varies * 0", x.value(0, 2, true), 0);
        check.due("0 * what varies", x.value(0, 3, true), 0);
        check.due("what varies * itself", x.value(0, 4, true), VARIES);
        check.due("0 * 0", x.value(0, 1, true), 0);
    }

    // "else if a variable that is used VARIES, what is set VARIES", whatever the other one is
    private static void noOtherOpLooksPastWhatVaries() {
        for (int op = 1; op <= 6; op++) {
            for (int constant : new int[] {0, 1, -1, Check.LOW, Check.HIGH}) {
                FlowSolver x = Check.blocks(1);
                x.parameters(1);
                check.adds(x, new int[][] {{0, 0, 1, constant, 0}, {0, op, 2, 0, 1}, {0, op, 3, 1, 0}, {0, op, 4, 0, 0}});
                boolean nought = op == 4 && constant == 0;
                long reversed = op == 1 ? constant : nought ? 0 : VARIES;
                check.due("varies op " + op + " " + constant, x.value(0, 2, true), nought ? 0 : VARIES);
                check.due(constant + " op " + op + " varies", x.value(0, 3, true), reversed);
                check.due("varies op " + op + " itself", x.value(0, 4, true), VARIES);
            }
        }
    }

    // "if that is the same constant for all; VARIES, if not"
    private static void sameConstantOrVaries() {
        FlowSolver x = Check.blocks(4);
        x.parameters(1);
        check.adds(x, new int[][] {
            {1, 0, 1, 6, 0}, {2, 0, 1, 6, 0}, {1, 0, 2, 0, 0}, {2, 0, 3, -1, 0}, {1, 7, 4, 0, 0}});
        check.exits(x, new int[][] {{0, 2, 0, 1, 2}, {1, 1, 0, 3, 0}, {2, 1, 0, 3, 0}});
        long[] want = {VARIES, 6, 0, VARIES, VARIES, 0};
        for (int v = 0; v < 6; v++) {
            check.due("value(3, " + v + ", false)", x.value(3, v, false), want[v]);
        }
    }

    // only "the blocks with OPEN edges to it" count
    private static void closedEdgesHandOnNothing() {
        // 2 leads to 3 too, but the constant 0 leads it to 4
        FlowSolver x = Check.blocks(5);
        x.parameters(1);
        check.adds(x, new int[][] {{1, 0, 1, 6, 0}, {2, 0, 1, 7, 0}, {2, 0, 5, 0, 0}});
        check.exits(x, new int[][] {{0, 2, 0, 1, 2}, {1, 1, 0, 3, 0}, {2, 2, 5, 3, 4}});
        check.due("value(3, 1, false)", x.value(3, 1, false), 6);
        check.due("value(4, 1, false)", x.value(4, 1, false), 7);
        check.counts(x, "closed", 5, 5, 5, 4);
        x.add(2, 0, 5, -1, 0);
        check.due("opened: value(3, 1, false)", x.value(3, 1, false), VARIES);
        check.due("closed: value(4, 1, false)", x.value(4, 1, false), NOWHERE);
        check.counts(x, "the other is closed", 5, 4, 5, 4);
    }
}
