/** What is full, and the greatest of all that is counted: blocks, instructions, bits, begun blocks, calls. */
public final class LimitsTest {
    private static final int BAD = FlowSolver.BAD;
    private static final int FULL = FlowSolver.FULL;
    private static final Check check = new Check();

    public static void main(String[] args) {
        seventeenthBlock();
        blocksAfterFullAndClear();
        fifthInstruction();
        allInstructionsAreKept();
        addTestsBadBeforeFull();
        highestBits();
        mostEdges();
        deepestLoops();
        twoHundredBlocksAreBegun();
        twoHundredAndFirstIsNot();
        cutInABlockThatWouldReturnNext();
        cutTellsNoValue();
        lastOfFiveHundredAndTwelveCalls();
        check.end();
    }

    // Terms: "n up to 16"; promise 2: "its number; FULL"
    private static void seventeenthBlock() {
        FlowSolver x = new FlowSolver();
        for (int b = 0; b < 16; b++) {
            check.due("block", x.block(), b);
        }
        for (int n = 17; n < 40; n++) {
            check.due("block, the " + n + "th", x.block(), FULL);
        }
        check.due("15 is there", x.depth(15), 0);
        check.due("16 is not there", x.depth(16), -1);
        check.due("GO to 15", x.exit(0, 1, 0, 15, 0), true);
        check.due("GO to 16", x.exit(0, 1, 0, 16, 0), false);
        check.due("clear of a full object", x.clear(), 16);
    }

    private static void blocksAfterFullAndClear() {
        FlowSolver x = Check.blocks(17);
        x.clear();
        for (int b = 0; b < 16; b++) {
            check.due("block after clear", x.block(), b);
        }
        check.due("block after clear, the 17th", x.block(), FULL);
    }

    // Terms: "up to 4 INSTRUCTIONS"; promise 3: "how many it has .. FULL"
    private static void fifthInstruction() {
        FlowSolver x = Check.blocks(16);
        for (int b = 0; b < 16; b++) {
            for (int n = 1; n <= 4; n++) {
                check.due("block " + b + ": add " + n, x.add(b, n, n, 0, 0), n);
            }
            check.due("block " + b + ": add 5", x.add(b, 0, 0, 0, 0), FULL);
            check.due("block " + b + ": add 6", x.add(b, 7, 0, 0, 0), FULL);
        }
        check.due("the first block is full still", x.add(0, 0, 0, 0, 0), FULL);
    }

    // Promise 3: "behind those of a block": none takes the place of another one
    private static void allInstructionsAreKept() {
        FlowSolver x = Check.blocks(16);
        for (int n = 0; n < 4; n++) {
            for (int b = 0; b < 16; b++) {
                check.due("block " + b + ": add", x.add(b, 0, n + 1, 10 * b + n, 0), n + 1);
            }
        }
        for (int b = 0; b < 15; b++) {
            x.exit(b, 1, 0, b + 1, 0);
        }
        for (int b = 0; b < 16; b++) {
            check.due("block " + b + ": FULL", x.add(b, 0, 2, 999, 0), FULL);
        }
        for (int b = 0; b < 16; b++) {
            for (int n = 0; n < 4; n++) {
                check.due("block " + b + ": variable " + (n + 1), x.value(b, n + 1, true), 10 * b + n);
            }
        }
        for (int n = 0; n < 4; n++) {
            x.exit(15, 0, n + 1, 0, 0);
            x.run(0, 0, 0);
            check.last(x, "run of 64 instructions", 150 + n, 16, 15);
        }
    }

    // Promise 18: "add: BAD is tested before FULL"
    private static void addTestsBadBeforeFull() {
        FlowSolver x = Check.blocks(1);
        for (int n = 1; n <= 4; n++) {
            x.add(0, 0, 0, n, 0);
        }
        check.due("full: block", x.add(1, 0, 0, 0, 0), BAD);
        check.due("full: op too large", x.add(0, 8, 0, 0, 0), BAD);
        check.due("full: op too small", x.add(0, -1, 0, 0, 0), BAD);
        check.due("full: d too large", x.add(0, 0, 6, 0, 0), BAD);
        check.due("full: d too small", x.add(0, 7, -1, 0, 0), BAD);
        for (int op = 1; op <= 6; op++) {
            check.due("full: op " + op + ", a too large", x.add(0, op, 0, 6, 0), BAD);
            check.due("full: op " + op + ", a too small", x.add(0, op, 0, -1, 0), BAD);
            check.due("full: op " + op + ", b too large", x.add(0, op, 0, 0, 6), op == 1 ? FULL : BAD);
            check.due("full: op " + op + ", b too small", x.add(0, op, 0, 0, -1), op == 1 ? FULL : BAD);
            check.due("full: op " + op, x.add(0, op, 0, 0, 0), FULL);
        }
        check.due("full: op 0 uses no variable", x.add(0, 0, 0, 6, -1), FULL);
        check.due("full: op 7 uses no variable", x.add(0, 7, 0, 6, -1), FULL);
    }

    // Promises 9, 10, 12 and 13: "as bits": block 15, variable 5 and the fourth instruction
    private static void highestBits() {
        FlowSolver x = Check.blocks(16);
        x.exit(0, 1, 0, 15, 0);
        for (int v = 0; v < 4; v++) {
            x.add(15, 2, v + 2, v + 2, v + 2);
        }
        x.exit(15, 2, 5, 15, 15);
        check.due("frontier(15)", x.frontier(15), 1 << 15);
        check.due("merges(15)", x.merges(15), 4 + 8 + 16 + 32);
        check.due("lives(15)", x.lives(15), 4 + 8 + 16 + 32);
        check.due("needed(15)", x.needed(15), 8);
        check.due("depth(15)", x.depth(15), 1);
        check.due("parent(15)", x.parent(15), 0);
        check.due("value(15, 5, true)", x.value(15, 5, true), 0);
        x.add(0, 7, 5, 0, 0);
        check.due("value(15, 5, true), after INPUT", x.value(15, 5, true), FlowSolver.VARIES);
    }

    // Promise 15 with 16 blocks, each a BRANCH
    private static void mostEdges() {
        FlowSolver x = Check.blocks(16);
        for (int b = 0; b < 16; b++) {
            x.exit(b, 2, 0, Math.min(15, b + 1), 1);
        }
        check.due("a constant: OPEN", x.count(1), 2);
        check.due("a constant: OPEN edges", x.count(3), 2);
        x.parameters(1);
        int[] want = {16, 16, 32, 32};
        for (int what = 0; what < 4; what++) {
            check.due("what varies: count(" + what + ")", x.count(what), want[what]);
        }
    }

    // Promise 11 with as many loops side by side, and as many in each other, as there may be
    private static void deepestLoops() {
        FlowSolver x = Check.blocks(16);
        x.exit(0, 1, 0, 1, 0);
        for (int b = 1; b < 15; b++) {
            x.exit(b, 2, 0, b + 1, b);
        }
        x.exit(15, 1, 0, 15, 0);
        for (int b = 0; b < 16; b++) {
            check.due("loops of one block: depth(" + b + ")", x.depth(b), b == 0 ? 0 : 1);
        }
        // 0 to 15 in a row; 8 leads back to itself, 9 to 7, 10 to 6, and so on to 15, back to 1
        FlowSolver y = Check.blocks(16);
        for (int b = 0; b < 8; b++) {
            y.exit(b, 1, 0, b + 1, 0);
        }
        y.exit(8, 2, 0, 8, 9);
        for (int b = 9; b < 15; b++) {
            y.exit(b, 2, 0, 16 - b, b + 1);
        }
        y.exit(15, 1, 0, 1, 0);
        int[] want = {0, 1, 2, 3, 4, 5, 6, 7, 8, 7, 6, 5, 4, 3, 2, 1};
        for (int b = 0; b < 16; b++) {
            check.due("loops in loops: depth(" + b + ")", y.depth(b), want[b]);
        }
    }

    // Promise 16: "CUT when 201 blocks would be begun": 200 are not cut
    private static void twoHundredBlocksAreBegun() {
        FlowSolver x = check.rounds();
        check.due("3 blocks", x.run(1, 0, 0), FlowSolver.RETURNED);
        check.last(x, "3 blocks", 1, 3, 2);
        check.due("199 blocks", x.run(197, 0, 0), FlowSolver.RETURNED);
        check.last(x, "199 blocks", 197, 199, 2);
        check.due("200 blocks", x.run(198, 0, 0), FlowSolver.RETURNED);
        check.last(x, "200 blocks", 198, 200, 2);
    }

    // Promise 16: "CUT when 201 blocks would be begun"
    private static void twoHundredAndFirstIsNot() {
        FlowSolver x = check.rounds();
        check.due("201 blocks", x.run(199, 0, 0), FlowSolver.CUT);
        check.last(x, "201 blocks", 0, 200, 1);
        check.due("202 blocks", x.run(200, 0, 0), FlowSolver.CUT);
        check.last(x, "202 blocks", 0, 200, 1);
        check.due("without end", x.run(0, 0, 0), FlowSolver.CUT);
        check.last(x, "without end", 0, 200, 1);
        check.due("and then 200", x.run(198, 0, 0), FlowSolver.RETURNED);
        check.last(x, "and then 200", 198, 200, 2);
    }

    // Promise 17: "how many blocks were begun .. the last of them": the 201st was not begun
    private static void cutInABlockThatWouldReturnNext() {
        FlowSolver x = Check.blocks(4);
        check.exits(x, new int[][] {{0, 1, 0, 1, 0}, {1, 1, 0, 2, 0}, {2, 1, 0, 1, 0}});
        check.due("1 and 2 in turn", x.run(3, 0, 0), FlowSolver.CUT);
        check.last(x, "1 and 2 in turn", 0, 200, 1);
        x.exit(0, 1, 0, 2, 0);
        check.due("2 and 1 in turn", x.run(3, 0, 0), FlowSolver.CUT);
        check.last(x, "2 and 1 in turn", 0, 200, 2);
        FlowSolver y = check.rounds();
        y.exit(2, 0, 1, 0, 0);
        check.due("block 2 would be the 201st", y.run(199, 0, 0), FlowSolver.CUT);
        check.last(y, "block 2 would be the 201st", 0, 200, 1);
    }

    // Promise 17: "the value RETURNED (0 if CUT)"
    private static void cutTellsNoValue() {
        FlowSolver x = check.rounds();
        x.run(3, 0, 0);
        check.last(x, "returned", 3, 5, 2);
        check.due("then cut", x.run(1000, 0, 0), FlowSolver.CUT);
        check.last(x, "then cut", 0, 200, 1);
    }

    // "An object is used for at most 512 calls": the last of them is answered like the first
    private static void lastOfFiveHundredAndTwelveCalls() {
        FlowSolver x = Check.blocks(2);
        x.parameters(1);
        x.exit(0, 2, 0, 1, 1);
        for (int call = 5; call < 512; call++) {
            check.due("call " + call + ": run", x.run(call, 0, 0), FlowSolver.RETURNED);
        }
        check.due("call 512: last(0)", x.last(0), 511);
        FlowSolver y = new FlowSolver();
        for (int call = 1; call <= 511; call++) {
            int due = call % 17 == 0 ? 16 : call % 17 - 1;
            check.due("call " + call, call % 17 == 0 ? y.clear() : y.block(), due);
        }
        check.due("call 512: clear", y.clear(), 1);
    }
}
